def fvs5 (ba : Nat) (c : Nat → Int) (fs : List (Nat × Nat)) (i : Nat) : List Value := match fs with
  | [] => []
  | q :: r => (if q.1 = 0 then vI (c i) else if q.1 = 1 then vL (c i) else if q.1 = 2 ∧ c i = 1 then .ref (ba + q.2) else .null) :: fvs5 ba c r (i + 1)
def mkE5 (ba : Nat) (cA : Nat → ClassId) (q : Shp) (c : Nat → Int) : va_E :=
  if q.1 = 1 then .inl (cA 1, q.2.1, .inr (.inl (fun j => Int64.ofInt (c j))))
  else if q.1 = 4 then .inr (q.2.1, fvs5 ba c q.2.2 0)
  else .inl (cA q.1, q.2.1, .inl (fun j => Int32.ofInt (c j)))
def wl5 (sh : Nat → Shp) (N : Nat) (ba : Nat) (cA : Nat → ClassId) (σ : St) : va_W := (List.range N).map (fun k => (ba + k, mkE5 ba cA (sh k) (σ k)))
theorem wl5_get {sh : Nat → Shp} {N : Nat} {ba : Nat} {cA : Nat → ClassId} {σ : St} {k : Nat} (hk : k < N) : (wl5 sh N ba cA σ)[k]? = some (ba + k, mkE5 ba cA (sh k) (σ k)) := by
  simp [wl5, hk]
theorem wl5_lt {sh : Nat → Shp} {N : Nat} {ba : Nat} {cA : Nat → ClassId} {σ : St} {k : Nat} {q : Nat × va_E} (h : (wl5 sh N ba cA σ)[k]? = some q) : k < N ∧ q = (ba + k, mkE5 ba cA (sh k) (σ k)) := by
  have hk : k < N := by
    have := (List.getElem?_eq_some_iff.mp h).1
    simpa [wl5] using this
  rw [wl5_get hk] at h
  exact ⟨hk, (Option.some.inj h).symm⟩
theorem wl5_set {sh : Nat → Shp} {N : Nat} {ba : Nat} {cA : Nat → ClassId} {σ σ' : St} {k : Nat} (h : ∀ j, j ≠ k → σ' j = σ j) : (wl5 sh N ba cA σ).set k (ba + k, mkE5 ba cA (sh k) (σ' k)) = wl5 sh N ba cA σ' := by
  apply List.ext_getElem?
  intro i
  by_cases hi : i < N
  · by_cases hik : i = k
    · subst hik
      rw [wl5_get hi, List.getElem?_set_self (by simpa [wl5] using hi)]
    · rw [List.getElem?_set_ne (fun e => hik e.symm), wl5_get hi, wl5_get hi, h i hik]
  · have h1 : ((wl5 sh N ba cA σ).set k (ba + k, mkE5 ba cA (sh k) (σ' k))).length ≤ i := by simp [wl5]; omega
    have h2 : (wl5 sh N ba cA σ').length ≤ i := by simp [wl5]; omega
    rw [List.getElem?_eq_none h1, List.getElem?_eq_none h2]
theorem wl5_succ {sh : Nat → Shp} {N : Nat} {ba : Nat} {cA : Nat → ClassId} {σ : St} : wl5 sh (N + 1) ba cA σ = wl5 sh N ba cA σ ++ [(ba + N, mkE5 ba cA (sh N) (σ N))] := by
  simp [wl5, List.range_succ]
def fv5 (ba : Nat) (q : Nat × Nat) (x : Int) : Value := if q.1 = 0 then vI x else if q.1 = 1 then vL x else if q.1 = 2 ∧ x = 1 then .ref (ba + q.2) else .null
theorem fvs5_get {ba : Nat} {c : Nat → Int} : ∀ (fs : List (Nat × Nat)) (i f : Nat) (q : Nat × Nat), fs[f]? = some q → (fvs5 ba c fs i)[f]? = some (fv5 ba q (c (i + f))) := by
  intro fs
  induction fs with
  | nil => intro i f q h; simp at h
  | cons a r ih =>
    intro i f q h
    cases f with
    | zero => simp at h; subst h; simp [fvs5, fv5]
    | succ f =>
      have := ih (i + 1) f q (by simpa using h)
      simp only [fvs5, List.getElem?_cons_succ]
      rw [this, show i + 1 + f = i + (f + 1) by omega]
theorem fvs5_len {ba : Nat} {c : Nat → Int} : ∀ (fs : List (Nat × Nat)) (i : Nat), (fvs5 ba c fs i).length = fs.length := by
  intro fs
  induction fs with
  | nil => intro i; rfl
  | cons a r ih => intro i; simp [fvs5, ih]
theorem fvs5_set {ba : Nat} {c : Nat → Int} {w : Value} {x : Int} : ∀ (fs : List (Nat × Nat)) (i f : Nat) (q : Nat × Nat), fs[f]? = some q → fv5 ba q x = w → (fvs5 ba c fs i).set f w = fvs5 ba (fun b => if b = i + f then x else c b) fs i := by
  intro fs
  induction fs with
  | nil => intro i f q h; simp at h
  | cons a r ih =>
    intro i f q h hw
    cases f with
    | zero =>
      simp at h; subst h
      simp only [fvs5, List.set_cons_zero, Nat.add_zero, if_true]
      unfold fv5 at hw
      rw [hw]
      congr 1
      have : ∀ (fs : List (Nat × Nat)) (n : Nat), i < n → fvs5 ba c fs n = fvs5 ba (fun b => if b = i then x else c b) fs n := by
        intro fs
        induction fs with
        | nil => intro n _; rfl
        | cons a r ih2 =>
          intro n hn
          simp only [fvs5]
          rw [ih2 (n + 1) (by omega)]
          simp only [if_neg (show n ≠ i by omega)]
      exact this r (i + 1) (by omega)
    | succ f =>
      have := ih (i + 1) f q (by simpa using h) hw
      simp only [fvs5, List.set_cons_succ]
      rw [this, show i + 1 + f = i + (f + 1) by omega]
      simp only [if_neg (show i ≠ i + (f + 1) by omega)]
theorem wl5_i {sh : Nat → Shp} {N : Nat} {ba : Nat} {cA : Nat → ClassId} {σ : St} {k n t : Nat} (hk : k < N) (hs : sh k = (t, n, [])) (ht : t ≠ 1 ∧ t ≠ 4) : (wl5 sh N ba cA σ)[k]? = some (ba + k, .inl (cA t, n, .inl (fun j => Int32.ofInt (σ k j)))) := by
  rw [wl5_get hk]; unfold mkE5; rw [hs, if_neg ht.1, if_neg ht.2]
theorem wl5_o {sh : Nat → Shp} {N : Nat} {ba : Nat} {cA : Nat → ClassId} {σ : St} {k ci : Nat} {fs : List (Nat × Nat)} (hk : k < N) (hs : sh k = (4, ci, fs)) : (wl5 sh N ba cA σ)[k]? = some (ba + k, .inr (ci, fvs5 ba (σ k) fs 0)) := by
  rw [wl5_get hk]; unfold mkE5; rw [hs, if_neg (show ¬ (4 : Nat) = 1 by decide), if_pos rfl]
theorem wl5_ui {sh : Nat → Shp} {N : Nat} {ba : Nat} {cA : Nat → ClassId} {σ : St} {k n t j : Nat} {x : Int} (hs : sh k = (t, n, [])) (ht : t ≠ 1 ∧ t ≠ 4) : (wl5 sh N ba cA σ).set k (ba + k, .inl (cA t, n, .inl (upd (fun j => Int32.ofInt (σ k j)) j (Int32.ofInt x)))) = wl5 sh N ba cA (upS σ k j x) := by
  rw [← wl5_set (σ := σ) (σ' := upS σ k j x) (k := k) upS_ne]
  congr 1
  unfold mkE5
  rw [hs, if_neg ht.1, if_neg ht.2, upS_eq]
  have : (upd (fun j => Int32.ofInt (σ k j)) j (Int32.ofInt x)) = (fun j_1 => Int32.ofInt (if j_1 = j then x else σ k j_1)) := by
    funext b
    unfold upd
    split <;> rfl
  rw [this]
theorem wl5_uo {sh : Nat → Shp} {N : Nat} {ba : Nat} {cA : Nat → ClassId} {σ : St} {k ci f : Nat} {fs : List (Nat × Nat)} {q : Nat × Nat} {x : Int} {w : Value} (hs : sh k = (4, ci, fs)) (hf : fs[f]? = some q) (hw : fv5 ba q x = w) : (wl5 sh N ba cA σ).set k (ba + k, .inr (ci, (fvs5 ba (σ k) fs 0).set f w)) = wl5 sh N ba cA (upS σ k f x) := by
  rw [← wl5_set (σ := σ) (σ' := upS σ k f x) (k := k) upS_ne]
  congr 1
  unfold mkE5
  rw [hs, if_neg (show ¬ (4 : Nat) = 1 by decide), if_pos rfl, upS_eq, fvs5_set fs 0 f q hf hw]
  simp only [Nat.zero_add]
def EvN (p : Program) (s : State) (m : MethodId) (args : Array Value) (meth : Method) (c : Code) (cc : ByteArray) (nL : Nat) (own : String) (A0 : Nat → Prop) (H0 : Heap) (D : va_G) (cA : Nat → ClassId) (ba : Nat) : Prop :=
  CallFix p m c cc nL s args gtbl own ∧ va_K D classes (tyA cA) s ∧ (∀ i, A0 (ba + i)) ∧ (∀ q, H0.size ≤ q → A0 q) ∧ meth.locks = false
def GN (p : Program) (l : Launch) (e : Env) (R : Room) (s : State) (m : MethodId) (args : Array Value) (below : List Frame) (meth : Method) (c : Code) (nL : Nat) (A0 : Nat → Prop) (H0 : Heap) (D : va_G) (cA : Nat → ClassId) (ba : Nat) (sh : Nat → Shp) (N cells slots : Nat) (Q : State → Prop) (σ : St) (pc : Nat) (ol : List (Option Value)) (st : List Value) : Prop :=
  ∀ (H : Heap) (locs : List Loc) (ls : Array Slot), H.size = ba + N → va_P D classes (wl5 sh N ba cA σ) H → va_S A0 H0 H locs → Lh ls nL ol → W p l e R s m args below meth c H locs cells slots Q (F0 m pc ls st)
theorem wl5_D {sh : Nat → Shp} {N : Nat} {ba : Nat} {cA : Nat → ClassId} {σ : St} {A0 : Nat → Prop} (h2 : ∀ i, i < N → A0 (ba + i)) : va_D A0 (wl5 sh N ba cA σ) := by
  refine ⟨fun i j p q hi hj hpq => ?_, fun k q hk => ?_⟩
  · obtain ⟨l1, rfl⟩ := wl5_lt hi
    obtain ⟨l2, rfl⟩ := wl5_lt hj
    have : ba + i = ba + j := hpq
    omega
  · obtain ⟨l1, rfl⟩ := wl5_lt hk
    exact h2 k l1
theorem in5 {A0 : Nat → Prop} {ba N : Nat} (h1 : ∀ i, A0 (ba + i)) : ∀ i, i < N → A0 (ba + i) := fun i _ => h1 i
section GNs
variable {p : Program} {l : Launch} {e : Env} {R : Room} {s : State} {m : MethodId} {args : Array Value} {below : List Frame} {meth : Method} {c : Code} {nL : Nat} {A0 : Nat → Prop} {H0 : Heap} {D : va_G} {cA : Nat → ClassId} {ba : Nat} {sh : Nat → Shp} {N cells slots : Nat} {Q : State → Prop} {cc : ByteArray} {own : String}
variable {σ : St} {pc pc' tgt : Nat} {ol : List (Option Value)} {st stk : List Value}
theorem n_iconst (E : EvN p s m args meth c cc nL own A0 H0 D cA ba) {n : Int} (d : Dc cc pc (.iconst n) 1 pc') (k : GN p l e R s m args below meth c nL A0 H0 D cA ba sh N cells slots Q σ pc' ol (vI n :: st)) : GN p l e R s m args below meth c nL A0 H0 D cA ba sh N cells slots Q σ pc ol st := by
  obtain ⟨⟨hx, hb, hml, hown, hts⟩, hK, hAa, hAq, hlk⟩ := E
  obtain ⟨d, rfl⟩ := d
  intro H locs ls hz hP hS hL
  exact lv_iconst hx hb d rfl (k H locs ls hz hP hS hL)
theorem n_bipush (E : EvN p s m args meth c cc nL own A0 H0 D cA ba) {n : Int} (h : (Int8.ofInt n).toInt32 = Int32.ofInt n) (d : Dc cc pc (.bipush n) 2 pc') (k : GN p l e R s m args below meth c nL A0 H0 D cA ba sh N cells slots Q σ pc' ol (vI n :: st)) : GN p l e R s m args below meth c nL A0 H0 D cA ba sh N cells slots Q σ pc ol st := by
  obtain ⟨⟨hx, hb, hml, hown, hts⟩, hK, hAa, hAq, hlk⟩ := E
  obtain ⟨d, rfl⟩ := d
  intro H locs ls hz hP hS hL
  exact lv_bipush hx hb d h (k H locs ls hz hP hS hL)
theorem n_sipush (E : EvN p s m args meth c cc nL own A0 H0 D cA ba) {n : Int} (h : (Int16.ofInt n).toInt32 = Int32.ofInt n) (d : Dc cc pc (.sipush n) 3 pc') (k : GN p l e R s m args below meth c nL A0 H0 D cA ba sh N cells slots Q σ pc' ol (vI n :: st)) : GN p l e R s m args below meth c nL A0 H0 D cA ba sh N cells slots Q σ pc ol st := by
  obtain ⟨⟨hx, hb, hml, hown, hts⟩, hK, hAa, hAq, hlk⟩ := E
  obtain ⟨d, rfl⟩ := d
  intro H locs ls hz hP hS hL
  exact lv_sipush hx hb d h (k H locs ls hz hP hS hL)
theorem n_ldc (E : EvN p s m args meth c cc nL own A0 H0 D cA ba) {n : Int} {i : Nat} (h : Jvm.Cond.constant own i (Int32.ofInt n) ∈ gtbl) (d : Dc cc pc (.ldc i) 2 pc') (k : GN p l e R s m args below meth c nL A0 H0 D cA ba sh N cells slots Q σ pc' ol (vI n :: st)) : GN p l e R s m args below meth c nL A0 H0 D cA ba sh N cells slots Q σ pc ol st := by
  obtain ⟨⟨hx, hb, hml, hown, hts⟩, hK, hAa, hAq, hlk⟩ := E
  obtain ⟨d, rfl⟩ := d
  intro H locs ls hz hP hS hL
  exact lv_ldc hx hb hown (hts _ h) d (k H locs ls hz hP hS hL)
theorem n_ldcw (E : EvN p s m args meth c cc nL own A0 H0 D cA ba) {n : Int} {i : Nat} (h : Jvm.Cond.constant own i (Int32.ofInt n) ∈ gtbl) (d : Dc cc pc (.ldc_w i) 3 pc') (k : GN p l e R s m args below meth c nL A0 H0 D cA ba sh N cells slots Q σ pc' ol (vI n :: st)) : GN p l e R s m args below meth c nL A0 H0 D cA ba sh N cells slots Q σ pc ol st := by
  obtain ⟨⟨hx, hb, hml, hown, hts⟩, hK, hAa, hAq, hlk⟩ := E
  obtain ⟨d, rfl⟩ := d
  intro H locs ls hz hP hS hL
  exact lv_ldcw hx hb hown (hts _ h) d (k H locs ls hz hP hS hL)
theorem n_iload_0 (E : EvN p s m args meth c cc nL own A0 H0 D cA ba) {ot : List (Option Value)} {x : Int} (d : Dc cc pc (.iload_n 0) 1 pc') (k : GN p l e R s m args below meth c nL A0 H0 D cA ba sh N cells slots Q σ pc' (some (vI x) :: ot) (vI x :: st)) : GN p l e R s m args below meth c nL A0 H0 D cA ba sh N cells slots Q σ pc (some (vI x) :: ot) st := by
  obtain ⟨⟨hx, hb, hml, hown, hts⟩, hK, hAa, hAq, hlk⟩ := E
  obtain ⟨d, rfl⟩ := d
  intro H locs ls hz hP hS hL
  exact lv_iload_n hx hb d rfl (hL.at (i := 0) rfl) (k H locs ls hz hP hS hL)
theorem n_iload_1 (E : EvN p s m args meth c cc nL own A0 H0 D cA ba) {a0 : Option Value} {ot : List (Option Value)} {x : Int} (d : Dc cc pc (.iload_n 1) 1 pc') (k : GN p l e R s m args below meth c nL A0 H0 D cA ba sh N cells slots Q σ pc' (a0 :: some (vI x) :: ot) (vI x :: st)) : GN p l e R s m args below meth c nL A0 H0 D cA ba sh N cells slots Q σ pc (a0 :: some (vI x) :: ot) st := by
  obtain ⟨⟨hx, hb, hml, hown, hts⟩, hK, hAa, hAq, hlk⟩ := E
  obtain ⟨d, rfl⟩ := d
  intro H locs ls hz hP hS hL
  exact lv_iload_n hx hb d rfl (hL.at (i := 1) rfl) (k H locs ls hz hP hS hL)
theorem n_iload_2 (E : EvN p s m args meth c cc nL own A0 H0 D cA ba) {a0 a1 : Option Value} {ot : List (Option Value)} {x : Int} (d : Dc cc pc (.iload_n 2) 1 pc') (k : GN p l e R s m args below meth c nL A0 H0 D cA ba sh N cells slots Q σ pc' (a0 :: a1 :: some (vI x) :: ot) (vI x :: st)) : GN p l e R s m args below meth c nL A0 H0 D cA ba sh N cells slots Q σ pc (a0 :: a1 :: some (vI x) :: ot) st := by
  obtain ⟨⟨hx, hb, hml, hown, hts⟩, hK, hAa, hAq, hlk⟩ := E
  obtain ⟨d, rfl⟩ := d
  intro H locs ls hz hP hS hL
  exact lv_iload_n hx hb d rfl (hL.at (i := 2) rfl) (k H locs ls hz hP hS hL)
theorem n_iload_3 (E : EvN p s m args meth c cc nL own A0 H0 D cA ba) {a0 a1 a2 : Option Value} {ot : List (Option Value)} {x : Int} (d : Dc cc pc (.iload_n 3) 1 pc') (k : GN p l e R s m args below meth c nL A0 H0 D cA ba sh N cells slots Q σ pc' (a0 :: a1 :: a2 :: some (vI x) :: ot) (vI x :: st)) : GN p l e R s m args below meth c nL A0 H0 D cA ba sh N cells slots Q σ pc (a0 :: a1 :: a2 :: some (vI x) :: ot) st := by
  obtain ⟨⟨hx, hb, hml, hown, hts⟩, hK, hAa, hAq, hlk⟩ := E
  obtain ⟨d, rfl⟩ := d
  intro H locs ls hz hP hS hL
  exact lv_iload_n hx hb d rfl (hL.at (i := 3) rfl) (k H locs ls hz hP hS hL)
theorem n_iload_4 (E : EvN p s m args meth c cc nL own A0 H0 D cA ba) {a0 a1 a2 a3 : Option Value} {ot : List (Option Value)} {x : Int} (d : Dc cc pc (.iload 4) 2 pc') (k : GN p l e R s m args below meth c nL A0 H0 D cA ba sh N cells slots Q σ pc' (a0 :: a1 :: a2 :: a3 :: some (vI x) :: ot) (vI x :: st)) : GN p l e R s m args below meth c nL A0 H0 D cA ba sh N cells slots Q σ pc (a0 :: a1 :: a2 :: a3 :: some (vI x) :: ot) st := by
  obtain ⟨⟨hx, hb, hml, hown, hts⟩, hK, hAa, hAq, hlk⟩ := E
  obtain ⟨d, rfl⟩ := d
  intro H locs ls hz hP hS hL
  exact lv_iload hx hb d (hL.at (i := 4) rfl) (k H locs ls hz hP hS hL)
theorem n_aload_0 (E : EvN p s m args meth c cc nL own A0 H0 D cA ba) {ot : List (Option Value)} {x : Nat} (d : Dc cc pc (.aload_n 0) 1 pc') (k : GN p l e R s m args below meth c nL A0 H0 D cA ba sh N cells slots Q σ pc' (some (.ref x) :: ot) (.ref x :: st)) : GN p l e R s m args below meth c nL A0 H0 D cA ba sh N cells slots Q σ pc (some (.ref x) :: ot) st := by
  obtain ⟨⟨hx, hb, hml, hown, hts⟩, hK, hAa, hAq, hlk⟩ := E
  obtain ⟨d, rfl⟩ := d
  intro H locs ls hz hP hS hL
  exact lv_aload_n hx hb d rfl (hL.at (i := 0) rfl) (k H locs ls hz hP hS hL)
theorem n_aload_1 (E : EvN p s m args meth c cc nL own A0 H0 D cA ba) {a0 : Option Value} {ot : List (Option Value)} {x : Nat} (d : Dc cc pc (.aload_n 1) 1 pc') (k : GN p l e R s m args below meth c nL A0 H0 D cA ba sh N cells slots Q σ pc' (a0 :: some (.ref x) :: ot) (.ref x :: st)) : GN p l e R s m args below meth c nL A0 H0 D cA ba sh N cells slots Q σ pc (a0 :: some (.ref x) :: ot) st := by
  obtain ⟨⟨hx, hb, hml, hown, hts⟩, hK, hAa, hAq, hlk⟩ := E
  obtain ⟨d, rfl⟩ := d
  intro H locs ls hz hP hS hL
  exact lv_aload_n hx hb d rfl (hL.at (i := 1) rfl) (k H locs ls hz hP hS hL)
theorem n_aload_2 (E : EvN p s m args meth c cc nL own A0 H0 D cA ba) {a0 a1 : Option Value} {ot : List (Option Value)} {x : Nat} (d : Dc cc pc (.aload_n 2) 1 pc') (k : GN p l e R s m args below meth c nL A0 H0 D cA ba sh N cells slots Q σ pc' (a0 :: a1 :: some (.ref x) :: ot) (.ref x :: st)) : GN p l e R s m args below meth c nL A0 H0 D cA ba sh N cells slots Q σ pc (a0 :: a1 :: some (.ref x) :: ot) st := by
  obtain ⟨⟨hx, hb, hml, hown, hts⟩, hK, hAa, hAq, hlk⟩ := E
  obtain ⟨d, rfl⟩ := d
  intro H locs ls hz hP hS hL
  exact lv_aload_n hx hb d rfl (hL.at (i := 2) rfl) (k H locs ls hz hP hS hL)
theorem n_aload_3 (E : EvN p s m args meth c cc nL own A0 H0 D cA ba) {a0 a1 a2 : Option Value} {ot : List (Option Value)} {x : Nat} (d : Dc cc pc (.aload_n 3) 1 pc') (k : GN p l e R s m args below meth c nL A0 H0 D cA ba sh N cells slots Q σ pc' (a0 :: a1 :: a2 :: some (.ref x) :: ot) (.ref x :: st)) : GN p l e R s m args below meth c nL A0 H0 D cA ba sh N cells slots Q σ pc (a0 :: a1 :: a2 :: some (.ref x) :: ot) st := by
  obtain ⟨⟨hx, hb, hml, hown, hts⟩, hK, hAa, hAq, hlk⟩ := E
  obtain ⟨d, rfl⟩ := d
  intro H locs ls hz hP hS hL
  exact lv_aload_n hx hb d rfl (hL.at (i := 3) rfl) (k H locs ls hz hP hS hL)
theorem n_aload_4 (E : EvN p s m args meth c cc nL own A0 H0 D cA ba) {a0 a1 a2 a3 : Option Value} {ot : List (Option Value)} {x : Nat} (d : Dc cc pc (.aload 4) 2 pc') (k : GN p l e R s m args below meth c nL A0 H0 D cA ba sh N cells slots Q σ pc' (a0 :: a1 :: a2 :: a3 :: some (.ref x) :: ot) (.ref x :: st)) : GN p l e R s m args below meth c nL A0 H0 D cA ba sh N cells slots Q σ pc (a0 :: a1 :: a2 :: a3 :: some (.ref x) :: ot) st := by
  obtain ⟨⟨hx, hb, hml, hown, hts⟩, hK, hAa, hAq, hlk⟩ := E
  obtain ⟨d, rfl⟩ := d
  intro H locs ls hz hP hS hL
  exact lv_aload hx hb d (hL.at (i := 4) rfl) (k H locs ls hz hP hS hL)
theorem n_istore_0 (E : EvN p s m args meth c cc nL own A0 H0 D cA ba) {a0 : Option Value} {ot : List (Option Value)} {x : Int} (hn : 0 < nL) (d : Dc cc pc (.istore_n 0) 1 pc') (k : GN p l e R s m args below meth c nL A0 H0 D cA ba sh N cells slots Q σ pc' (some (vI x) :: ot) st) : GN p l e R s m args below meth c nL A0 H0 D cA ba sh N cells slots Q σ pc (a0 :: ot) (vI x :: st) := by
  obtain ⟨⟨hx, hb, hml, hown, hts⟩, hK, hAa, hAq, hlk⟩ := E
  obtain ⟨d, rfl⟩ := d
  intro H locs ls hz hP hS hL
  exact lv_istore_n hx hb d rfl hL hn rfl (fun ls' hL' => k H locs ls' hz hP hS (lv_more hL' (lvL_set1 (ol := (a0 :: ot)) (i := 0) rfl)))
theorem n_istore_1 (E : EvN p s m args meth c cc nL own A0 H0 D cA ba) {a0 a1 : Option Value} {ot : List (Option Value)} {x : Int} (ho : okP a0 = true) (hn : 1 < nL) (d : Dc cc pc (.istore_n 1) 1 pc') (k : GN p l e R s m args below meth c nL A0 H0 D cA ba sh N cells slots Q σ pc' (a0 :: some (vI x) :: ot) st) : GN p l e R s m args below meth c nL A0 H0 D cA ba sh N cells slots Q σ pc (a0 :: a1 :: ot) (vI x :: st) := by
  obtain ⟨⟨hx, hb, hml, hown, hts⟩, hK, hAa, hAq, hlk⟩ := E
  obtain ⟨d, rfl⟩ := d
  intro H locs ls hz hP hS hL
  exact lv_istore_n hx hb d rfl hL hn rfl (fun ls' hL' => k H locs ls' hz hP hS (lv_more hL' (lvL_set1 (ol := (a0 :: a1 :: ot)) (i := 1) ho)))
theorem n_istore_2 (E : EvN p s m args meth c cc nL own A0 H0 D cA ba) {a0 a1 a2 : Option Value} {ot : List (Option Value)} {x : Int} (ho : okP a1 = true) (hn : 2 < nL) (d : Dc cc pc (.istore_n 2) 1 pc') (k : GN p l e R s m args below meth c nL A0 H0 D cA ba sh N cells slots Q σ pc' (a0 :: a1 :: some (vI x) :: ot) st) : GN p l e R s m args below meth c nL A0 H0 D cA ba sh N cells slots Q σ pc (a0 :: a1 :: a2 :: ot) (vI x :: st) := by
  obtain ⟨⟨hx, hb, hml, hown, hts⟩, hK, hAa, hAq, hlk⟩ := E
  obtain ⟨d, rfl⟩ := d
  intro H locs ls hz hP hS hL
  exact lv_istore_n hx hb d rfl hL hn rfl (fun ls' hL' => k H locs ls' hz hP hS (lv_more hL' (lvL_set1 (ol := (a0 :: a1 :: a2 :: ot)) (i := 2) ho)))
theorem n_istore_3 (E : EvN p s m args meth c cc nL own A0 H0 D cA ba) {a0 a1 a2 a3 : Option Value} {ot : List (Option Value)} {x : Int} (ho : okP a2 = true) (hn : 3 < nL) (d : Dc cc pc (.istore_n 3) 1 pc') (k : GN p l e R s m args below meth c nL A0 H0 D cA ba sh N cells slots Q σ pc' (a0 :: a1 :: a2 :: some (vI x) :: ot) st) : GN p l e R s m args below meth c nL A0 H0 D cA ba sh N cells slots Q σ pc (a0 :: a1 :: a2 :: a3 :: ot) (vI x :: st) := by
  obtain ⟨⟨hx, hb, hml, hown, hts⟩, hK, hAa, hAq, hlk⟩ := E
  obtain ⟨d, rfl⟩ := d
  intro H locs ls hz hP hS hL
  exact lv_istore_n hx hb d rfl hL hn rfl (fun ls' hL' => k H locs ls' hz hP hS (lv_more hL' (lvL_set1 (ol := (a0 :: a1 :: a2 :: a3 :: ot)) (i := 3) ho)))
theorem n_astore_0 (E : EvN p s m args meth c cc nL own A0 H0 D cA ba) {a0 : Option Value} {ot : List (Option Value)} {x : Nat} (hn : 0 < nL) (d : Dc cc pc (.astore_n 0) 1 pc') (k : GN p l e R s m args below meth c nL A0 H0 D cA ba sh N cells slots Q σ pc' (some (.ref x) :: ot) st) : GN p l e R s m args below meth c nL A0 H0 D cA ba sh N cells slots Q σ pc (a0 :: ot) (.ref x :: st) := by
  obtain ⟨⟨hx, hb, hml, hown, hts⟩, hK, hAa, hAq, hlk⟩ := E
  obtain ⟨d, rfl⟩ := d
  intro H locs ls hz hP hS hL
  exact lv_astore_n hx hb d rfl hL hn rfl (fun ls' hL' => k H locs ls' hz hP hS (lv_more hL' (lvL_set1 (ol := (a0 :: ot)) (i := 0) rfl)))
theorem n_astore_1 (E : EvN p s m args meth c cc nL own A0 H0 D cA ba) {a0 a1 : Option Value} {ot : List (Option Value)} {x : Nat} (ho : okP a0 = true) (hn : 1 < nL) (d : Dc cc pc (.astore_n 1) 1 pc') (k : GN p l e R s m args below meth c nL A0 H0 D cA ba sh N cells slots Q σ pc' (a0 :: some (.ref x) :: ot) st) : GN p l e R s m args below meth c nL A0 H0 D cA ba sh N cells slots Q σ pc (a0 :: a1 :: ot) (.ref x :: st) := by
  obtain ⟨⟨hx, hb, hml, hown, hts⟩, hK, hAa, hAq, hlk⟩ := E
  obtain ⟨d, rfl⟩ := d
  intro H locs ls hz hP hS hL
  exact lv_astore_n hx hb d rfl hL hn rfl (fun ls' hL' => k H locs ls' hz hP hS (lv_more hL' (lvL_set1 (ol := (a0 :: a1 :: ot)) (i := 1) ho)))
theorem n_astore_2 (E : EvN p s m args meth c cc nL own A0 H0 D cA ba) {a0 a1 a2 : Option Value} {ot : List (Option Value)} {x : Nat} (ho : okP a1 = true) (hn : 2 < nL) (d : Dc cc pc (.astore_n 2) 1 pc') (k : GN p l e R s m args below meth c nL A0 H0 D cA ba sh N cells slots Q σ pc' (a0 :: a1 :: some (.ref x) :: ot) st) : GN p l e R s m args below meth c nL A0 H0 D cA ba sh N cells slots Q σ pc (a0 :: a1 :: a2 :: ot) (.ref x :: st) := by
  obtain ⟨⟨hx, hb, hml, hown, hts⟩, hK, hAa, hAq, hlk⟩ := E
  obtain ⟨d, rfl⟩ := d
  intro H locs ls hz hP hS hL
  exact lv_astore_n hx hb d rfl hL hn rfl (fun ls' hL' => k H locs ls' hz hP hS (lv_more hL' (lvL_set1 (ol := (a0 :: a1 :: a2 :: ot)) (i := 2) ho)))
theorem n_astore_3 (E : EvN p s m args meth c cc nL own A0 H0 D cA ba) {a0 a1 a2 a3 : Option Value} {ot : List (Option Value)} {x : Nat} (ho : okP a2 = true) (hn : 3 < nL) (d : Dc cc pc (.astore_n 3) 1 pc') (k : GN p l e R s m args below meth c nL A0 H0 D cA ba sh N cells slots Q σ pc' (a0 :: a1 :: a2 :: some (.ref x) :: ot) st) : GN p l e R s m args below meth c nL A0 H0 D cA ba sh N cells slots Q σ pc (a0 :: a1 :: a2 :: a3 :: ot) (.ref x :: st) := by
  obtain ⟨⟨hx, hb, hml, hown, hts⟩, hK, hAa, hAq, hlk⟩ := E
  obtain ⟨d, rfl⟩ := d
  intro H locs ls hz hP hS hL
  exact lv_astore_n hx hb d rfl hL hn rfl (fun ls' hL' => k H locs ls' hz hP hS (lv_more hL' (lvL_set1 (ol := (a0 :: a1 :: a2 :: a3 :: ot)) (i := 3) ho)))
theorem n_iinc_1 (E : EvN p s m args meth c cc nL own A0 H0 D cA ba) {a0 : Option Value} {ot : List (Option Value)} {x n : Int} (ho : okP a0 = true) (hn : 1 < nL) (d : Dc cc pc (.iinc 1 n) 3 pc') (k : ∀ v : Int, v = w32 (x + n) → GN p l e R s m args below meth c nL A0 H0 D cA ba sh N cells slots Q σ pc' (a0 :: some (vI v) :: ot) st) : GN p l e R s m args below meth c nL A0 H0 D cA ba sh N cells slots Q σ pc (a0 :: some (vI x) :: ot) st := by
  obtain ⟨⟨hx, hb, hml, hown, hts⟩, hK, hAa, hAq, hlk⟩ := E
  obtain ⟨d, rfl⟩ := d
  intro H locs ls hz hP hS hL
  obtain ⟨kk, hk⟩ := List.getElem?_of_mem ((lvL_mem (a0 :: some (vI x) :: ot) 0).mpr ⟨1, rfl, by simp⟩ : (1, vI x) ∈ lvL (a0 :: some (vI x) :: ot) 0)
  refine lv_iinc (v := Int32.ofInt (w32 (x + n))) hx hb d hL hk (by rw [i_w32, Int32.ofInt_add]) hn rfl (fun ls' hL' => k _ rfl H locs ls' hz hP hS (lv_more hL' (lvL_set1 (ol := (a0 :: some (vI x) :: ot)) (i := 1) ho)))
theorem n_iinc_2 (E : EvN p s m args meth c cc nL own A0 H0 D cA ba) {a0 a1 : Option Value} {ot : List (Option Value)} {x n : Int} (ho : okP a1 = true) (hn : 2 < nL) (d : Dc cc pc (.iinc 2 n) 3 pc') (k : ∀ v : Int, v = w32 (x + n) → GN p l e R s m args below meth c nL A0 H0 D cA ba sh N cells slots Q σ pc' (a0 :: a1 :: some (vI v) :: ot) st) : GN p l e R s m args below meth c nL A0 H0 D cA ba sh N cells slots Q σ pc (a0 :: a1 :: some (vI x) :: ot) st := by
  obtain ⟨⟨hx, hb, hml, hown, hts⟩, hK, hAa, hAq, hlk⟩ := E
  obtain ⟨d, rfl⟩ := d
  intro H locs ls hz hP hS hL
  obtain ⟨kk, hk⟩ := List.getElem?_of_mem ((lvL_mem (a0 :: a1 :: some (vI x) :: ot) 0).mpr ⟨2, rfl, by simp⟩ : (2, vI x) ∈ lvL (a0 :: a1 :: some (vI x) :: ot) 0)
  refine lv_iinc (v := Int32.ofInt (w32 (x + n))) hx hb d hL hk (by rw [i_w32, Int32.ofInt_add]) hn rfl (fun ls' hL' => k _ rfl H locs ls' hz hP hS (lv_more hL' (lvL_set1 (ol := (a0 :: a1 :: some (vI x) :: ot)) (i := 2) ho)))
theorem n_iinc_3 (E : EvN p s m args meth c cc nL own A0 H0 D cA ba) {a0 a1 a2 : Option Value} {ot : List (Option Value)} {x n : Int} (ho : okP a2 = true) (hn : 3 < nL) (d : Dc cc pc (.iinc 3 n) 3 pc') (k : ∀ v : Int, v = w32 (x + n) → GN p l e R s m args below meth c nL A0 H0 D cA ba sh N cells slots Q σ pc' (a0 :: a1 :: a2 :: some (vI v) :: ot) st) : GN p l e R s m args below meth c nL A0 H0 D cA ba sh N cells slots Q σ pc (a0 :: a1 :: a2 :: some (vI x) :: ot) st := by
  obtain ⟨⟨hx, hb, hml, hown, hts⟩, hK, hAa, hAq, hlk⟩ := E
  obtain ⟨d, rfl⟩ := d
  intro H locs ls hz hP hS hL
  obtain ⟨kk, hk⟩ := List.getElem?_of_mem ((lvL_mem (a0 :: a1 :: a2 :: some (vI x) :: ot) 0).mpr ⟨3, rfl, by simp⟩ : (3, vI x) ∈ lvL (a0 :: a1 :: a2 :: some (vI x) :: ot) 0)
  refine lv_iinc (v := Int32.ofInt (w32 (x + n))) hx hb d hL hk (by rw [i_w32, Int32.ofInt_add]) hn rfl (fun ls' hL' => k _ rfl H locs ls' hz hP hS (lv_more hL' (lvL_set1 (ol := (a0 :: a1 :: a2 :: some (vI x) :: ot)) (i := 3) ho)))
theorem n_dup (E : EvN p s m args meth c cc nL own A0 H0 D cA ba) {v : Value} (hv : v.category = 1) (d : Dc cc pc .dup 1 pc') (k : GN p l e R s m args below meth c nL A0 H0 D cA ba sh N cells slots Q σ pc' ol (v :: v :: st)) : GN p l e R s m args below meth c nL A0 H0 D cA ba sh N cells slots Q σ pc ol (v :: st) := by
  obtain ⟨⟨hx, hb, hml, hown, hts⟩, hK, hAa, hAq, hlk⟩ := E
  obtain ⟨d, rfl⟩ := d
  intro H locs ls hz hP hS hL
  exact lv_dup hx hb d hv (k H locs ls hz hP hS hL)
theorem n_goto (E : EvN p s m args meth c cc nL own A0 H0 D cA ba) {off : Int} (d : Dj cc pc (.goto off) 3 pc' off tgt) (k : GN p l e R s m args below meth c nL A0 H0 D cA ba sh N cells slots Q σ tgt ol st) : GN p l e R s m args below meth c nL A0 H0 D cA ba sh N cells slots Q σ pc ol st := by
  obtain ⟨⟨hx, hb, hml, hown, hts⟩, hK, hAa, hAq, hlk⟩ := E
  obtain ⟨d, rfl, ht⟩ := d
  intro H locs ls hz hP hS hL
  exact lv_goto hx hb d ht (k H locs ls hz hP hS hL)
theorem n_icmp_ne (E : EvN p s m args meth c cc nL own A0 H0 D cA ba) {off x y : Int} (cx : C32 x) (cy : C32 y) (d : Dj cc pc (.if_icmp .ne off) 3 pc' off tgt) (k1 : x ≠ y → GN p l e R s m args below meth c nL A0 H0 D cA ba sh N cells slots Q σ tgt ol st) (k2 : ¬ (x ≠ y) → GN p l e R s m args below meth c nL A0 H0 D cA ba sh N cells slots Q σ pc' ol st) : GN p l e R s m args below meth c nL A0 H0 D cA ba sh N cells slots Q σ pc ol (vI y :: vI x :: st) := by
  obtain ⟨⟨hx, hb, hml, hown, hts⟩, hK, hAa, hAq, hlk⟩ := E
  obtain ⟨d, rfl, ht⟩ := d
  intro H locs ls hz hP hS hL
  refine lv_icmp_ne hx hb d ht (fun h => k1 ?_ H locs ls hz hP hS hL) (fun h => k2 ?_ H locs ls hz hP hS hL)
  · simpa only [ge_iff_le, gt_iff_lt, ne_eq, Decidable.not_not, i_eq cx cy, i_lt cx cy, i_lt cy cx, i_le cx cy, i_le cy cx] using h
  · simpa only [ge_iff_le, gt_iff_lt, ne_eq, Decidable.not_not, i_eq cx cy, i_lt cx cy, i_lt cy cx, i_le cx cy, i_le cy cx] using h
theorem n_icmp_ge (E : EvN p s m args meth c cc nL own A0 H0 D cA ba) {off x y : Int} (cx : C32 x) (cy : C32 y) (d : Dj cc pc (.if_icmp .ge off) 3 pc' off tgt) (k1 : x ≥ y → GN p l e R s m args below meth c nL A0 H0 D cA ba sh N cells slots Q σ tgt ol st) (k2 : ¬ (x ≥ y) → GN p l e R s m args below meth c nL A0 H0 D cA ba sh N cells slots Q σ pc' ol st) : GN p l e R s m args below meth c nL A0 H0 D cA ba sh N cells slots Q σ pc ol (vI y :: vI x :: st) := by
  obtain ⟨⟨hx, hb, hml, hown, hts⟩, hK, hAa, hAq, hlk⟩ := E
  obtain ⟨d, rfl, ht⟩ := d
  intro H locs ls hz hP hS hL
  refine lv_icmp_ge hx hb d ht (fun h => k1 ?_ H locs ls hz hP hS hL) (fun h => k2 ?_ H locs ls hz hP hS hL)
  · simpa only [ge_iff_le, gt_iff_lt, ne_eq, Decidable.not_not, i_eq cx cy, i_lt cx cy, i_lt cy cx, i_le cx cy, i_le cy cx] using h
  · simpa only [ge_iff_le, gt_iff_lt, ne_eq, Decidable.not_not, i_eq cx cy, i_lt cx cy, i_lt cy cx, i_le cx cy, i_le cy cx] using h
theorem n_if_ne (E : EvN p s m args meth c cc nL own A0 H0 D cA ba) {off x : Int} (cx : C32 x) (d : Dj cc pc (.ifCond .ne off) 3 pc' off tgt) (k1 : x ≠ 0 → GN p l e R s m args below meth c nL A0 H0 D cA ba sh N cells slots Q σ tgt ol st) (k2 : ¬ (x ≠ 0) → GN p l e R s m args below meth c nL A0 H0 D cA ba sh N cells slots Q σ pc' ol st) : GN p l e R s m args below meth c nL A0 H0 D cA ba sh N cells slots Q σ pc ol (vI x :: st) := by
  obtain ⟨⟨hx, hb, hml, hown, hts⟩, hK, hAa, hAq, hlk⟩ := E
  obtain ⟨d, rfl, ht⟩ := d
  intro H locs ls hz hP hS hL
  refine lv_if_ne hx hb d ht (fun h => k1 ?_ H locs ls hz hP hS hL) (fun h => k2 ?_ H locs ls hz hP hS hL)
  · rw [show (0 : Int32) = Int32.ofInt 0 from rfl] at h
    simpa only [ne_eq, Decidable.not_not, i_eq cx c32_0] using h
  · rw [show (0 : Int32) = Int32.ofInt 0 from rfl] at h
    simpa only [ne_eq, Decidable.not_not, i_eq cx c32_0] using h
theorem n_getR (E : EvN p s m args meth c cc nL own A0 H0 D cA ba) {idx ci f k n : Nat} {C : String} {T : u_T} {ty : Nat → FieldType} {fs : List (Nat × Nat)} {z : Nat} (fl : FLk own idx ci C T n ty f) (hk : k < N) (hs : sh k = (4, ci, fs)) (hf : fs[f]? = some (2, z)) (h1 : σ k f = 1) (d : Dc cc pc (.getfield idx) 3 pc') (kk : GN p l e R s m args below meth c nL A0 H0 D cA ba sh N cells slots Q σ pc' ol (.ref (ba + z) :: st)) : GN p l e R s m args below meth c nL A0 H0 D cA ba sh N cells slots Q σ pc ol (.ref (ba + k) :: st) := by
  obtain ⟨⟨hx, hb, hml, hown, hts⟩, hK, hAa, hAq, hlk⟩ := E
  obtain ⟨⟨hc, hin, -, -⟩, hfn, hT, hl⟩ := fl
  obtain ⟨d, rfl⟩ := d
  intro H locs ls hz hP hS hL
  refine va_get hx hb hts hin hown hK hP k (wl5_o hk hs) hc f hfn (ref := C) (hts _ hl) (by rw [hT]; exact fun x h => h) (v := .ref (ba + z)) ?_ d (kk H locs ls hz hP hS hL)
  have := fvs5_get (ba := ba) (c := σ k) fs 0 f _ hf
  rw [this]
  simp [fv5, h1]
theorem n_putR (E : EvN p s m args meth c cc nL own A0 H0 D cA ba) {idx ci f k n : Nat} {C : String} {T : u_T} {ty : Nat → FieldType} {fs : List (Nat × Nat)} {z : Nat} (fl : FLk own idx ci C T n ty f) (hfin : (T f).2.2.2 = true) (hin2 : meth.name = "<init>") (hdecl : (T f).1 = own) (hty : fits (ty f) (.ref (ba + z)) = true ∧ narrow (ty f) (.ref (ba + z)) = .ref (ba + z)) (hk : k < N) (hs : sh k = (4, ci, fs)) (hf : fs[f]? = some (2, z)) (d : Dc cc pc (.putfield idx) 3 pc') (kk : GN p l e R s m args below meth c nL A0 H0 D cA ba sh N cells slots Q (upS σ k f 1) pc' ol st) : GN p l e R s m args below meth c nL A0 H0 D cA ba sh N cells slots Q σ pc ol (.ref (ba + z) :: .ref (ba + k) :: st) := by
  obtain ⟨⟨hx, hb, hml, hown, hts⟩, hK, hAa, hAq, hlk⟩ := E
  obtain ⟨⟨hc, hin, ht, hnm⟩, hfn, hT, hl⟩ := fl
  obtain ⟨d, rfl⟩ := d
  intro H locs ls hz hP hS hL
  have hD : va_D A0 (wl5 sh N ba cA σ) := wl5_D (in5 (N := N) hAa)
  have hap := va_apart (own := own) hts hin ty ht hnm hK hc
  obtain ⟨r, h1, cell, q1, q2, q3, q4⟩ := hP k _ (wl5_o hk hs)
  have hr : r = (C, T, n) := Option.some.inj (h1.symm.trans hc)
  subst hr
  obtain ⟨hSl, hfc, kC, hkC, hkind⟩ := hK.1 ci _ hc
  obtain ⟨cf, kf, fi, fd, hi, hsl⟩ := hSl f hfn
  have hlay := hts _ (hin _ (u_in_lay hfn))
  unfold u_lay at hlay
  rw [if_pos hfin] at hlay
  have hst := (u_facts hfc hkC (u_lays hts hin hfn) hi).1
  have hcf : m.cls = cf := by
    obtain ⟨_, _, c', _, _, _, -, -, hf', -, -, -, hown2, -⟩ := Cond.laysFinal_spec hlay
    have e1 : c' = cf := by have := hi.symm.trans hf'; simp at this; exact this.1.symm
    rw [hdecl] at hown2
    rw [← e1]; exact Option.some.inj (hown.symm.trans hown2)
  have h6 := u_fits hfc hkC hkind (Or.inr hlay) hi (ht f hfn) hty.2 hty.1
  refine W.putFinK hx hb hown (ref := C) (hts _ hl) (by rw [← hT]; exact hi) hst hcf hin2 (by rw [q2]; exact h6) q1 q3 (by rw [hsl]; exact k2_hasslot (q4 f hfn)) rfl rfl d fun H' e1 e2 e3 => ?_
  rw [hsl] at e1 ⊢
  refine kk H' _ ls (by rw [e2]; exact hz) ?_ (hS.put e2 e3 ((in5 (N := N) hAa) k hk)) hL
  have hP2 := hP.set hD (wl5_o hk hs) (e := .inr (ci, (fvs5 ba (σ k) fs 0).set f (.ref (ba + z)))) ⟨_, hc, t_OB.to (V := updV (vp_V (fvs5 ba (σ k) fs 0)) f (.ref (ba + z))) ⟨_, e1, q2, q3, t_set q4 hap hfn (.ref (ba + z))⟩ (fun j _ => vp_updV_set (by rw [fvs5_len]; exact (List.getElem?_eq_some_iff.mp hf).1) _ j)⟩ e3
  rw [wl5_uo (x := 1) hs hf (by simp [fv5])] at hP2
  exact hP2
theorem n_putI (E : EvN p s m args meth c cc nL own A0 H0 D cA ba) {idx ci f k n : Nat} {C : String} {T : u_T} {ty : Nat → FieldType} {fs : List (Nat × Nat)} {z : Nat} {x : Int} (fl : FLk own idx ci C T n ty f) (hfin : (T f).2.2.2 = false) (hty : ty f = .int) (hk : k < N) (hs : sh k = (4, ci, fs)) (hf : fs[f]? = some (0, z)) (d : Dc cc pc (.putfield idx) 3 pc') (kk : GN p l e R s m args below meth c nL A0 H0 D cA ba sh N cells slots Q (upS σ k f x) pc' ol st) : GN p l e R s m args below meth c nL A0 H0 D cA ba sh N cells slots Q σ pc ol (vI x :: .ref (ba + k) :: st) := by
  obtain ⟨⟨hx, hb, hml, hown, hts⟩, hK, hAa, hAq, hlk⟩ := E
  obtain ⟨⟨hc, hin, ht, hnm⟩, hfn, hT, hl⟩ := fl
  obtain ⟨d, rfl⟩ := d
  intro H locs ls hz hP hS hL
  have hD : va_D A0 (wl5 sh N ba cA σ) := wl5_D (in5 (N := N) hAa)
  have hap := va_apart (own := own) hts hin ty ht hnm hK hc
  obtain ⟨r, h1, cell, q1, q2, q3, q4⟩ := hP k _ (wl5_o hk hs)
  have hr : r = (C, T, n) := Option.some.inj (h1.symm.trans hc)
  subst hr
  obtain ⟨hSl, hfc, kC, hkC, hkind⟩ := hK.1 ci _ hc
  obtain ⟨cf, kf, fi, fd, hi, hsl⟩ := hSl f hfn
  have hlay := hts _ (hin _ (u_in_lay hfn))
  unfold u_lay at hlay
  rw [if_neg (by rw [hfin]; decide)] at hlay
  have hst := (u_facts hfc hkC (u_lays hts hin hfn) hi).1
  have h6 := u_store (v := vI x) hfc hkC hkind hlay hi (ht f hfn) (by rw [hty]; rfl) (by rw [hty]; rfl)
  refine W.putK hx hb (f := fd) ⟨hown, (hts _ hl : (Cond.fieldLink own idx C _ _).before args s = true), ⟨_, _, _, by rw [← hT]; exact hi⟩, hst⟩ (by rw [q2]; exact h6) q1 q3 (by rw [hsl]; exact k2_hasslot (q4 f hfn)) rfl rfl d fun H' e1 e2 e3 => ?_
  rw [hsl] at e1 ⊢
  refine kk H' _ ls (by rw [e2]; exact hz) ?_ (hS.put e2 e3 ((in5 (N := N) hAa) k hk)) hL
  have hP2 := hP.set hD (wl5_o hk hs) (e := .inr (ci, (fvs5 ba (σ k) fs 0).set f (vI x))) ⟨_, hc, t_OB.to (V := updV (vp_V (fvs5 ba (σ k) fs 0)) f (vI x)) ⟨_, e1, q2, q3, t_set q4 hap hfn (vI x)⟩ (fun j _ => vp_updV_set (by rw [fvs5_len]; exact (List.getElem?_eq_some_iff.mp hf).1) _ j)⟩ e3
  rw [wl5_uo (x := x) hs hf (by simp [fv5])] at hP2
  exact hP2
theorem n_iast (E : EvN p s m args meth c cc nL own A0 H0 D cA ba) {k n : Nat} {x i : Int} (hk : k < N) (hs : sh k = (0, n, [])) (hn : n < 2147483648) (hi : 0 ≤ i ∧ i < (n : Int)) (d : Dc cc pc .iastore 1 pc') (kk : GN p l e R s m args below meth c nL A0 H0 D cA ba sh N cells slots Q (upS σ k i.toNat x) pc' ol st) : GN p l e R s m args below meth c nL A0 H0 D cA ba sh N cells slots Q σ pc ol (vI x :: vI i :: .ref (ba + k) :: st) := by
  obtain ⟨⟨hx, hb, hml, hown, hts⟩, hK, hAa, hAq, hlk⟩ := E
  obtain ⟨d, rfl⟩ := d
  obtain ⟨h1, h2⟩ := in_of hi hn
  intro H locs ls hz hP hS hL
  have hD : va_D A0 (wl5 sh N ba cA σ) := wl5_D (in5 (N := N) hAa)
  have ha := wl5_i (ba := ba) (cA := cA) (σ := σ) hk hs (by decide)
  refine W.iast hx hb (hP k _ ha) ((hK.2 0 _ rfl).1 n (fun j => .int (Int32.ofInt (σ k j)))) (fun q => by cases q) (by show ¬ (Int32.ofInt i < 0 ∨ (arrV _ _ _).slots.size ≤ _); rw [arrV_size]; exact h1) rfl rfl d fun H1 e z oq => ?_
  refine kk H1 _ ls (by rw [z]; exact hz) ?_ (hS.put z oq ((in5 (N := N) hAa) k hk)) hL
  have hP2 := hP.set hD ha (e := .inl (cA 0, n, .inl (upd (fun j => Int32.ofInt (σ k j)) (Int32.ofInt i).toNatClampNeg (Int32.ofInt x)))) (by
    show H1[ba + k]? = some (vp_cell _ _)
    rw [e]
    rw [vp_cell_i, vp_cell_i, arrV_store]
    congr 2
    funext q
    by_cases hq : q = (Int32.ofInt i).toNatClampNeg
    · subst hq
      simp [updV, upd]
    · simp [updV, upd, hq]) oq
  rw [h2, wl5_ui hs (by decide)] at hP2
  exact hP2
theorem n_new_int (E : EvN p s m args meth c cc nL own A0 H0 D cA ba) {n : Nat} (hs : sh N = (0, n, [])) (h0 : ∀ j, σ N j = 0) (hn : n < 2000000) (hcells : cells + 1 ≤ R.cells) (hslots : slots + n ≤ R.slots) (d : Dc cc pc (.newarray .int) 2 pc') {N' cells' slots' : Nat} (hN' : N + 1 = N') (hc' : cells + 1 = cells') (hsl' : slots + n = slots') (kk : GN p l e R s m args below meth c nL A0 H0 D cA ba sh N' cells' slots' Q σ pc' ol (.ref (ba + N) :: st)) : GN p l e R s m args below meth c nL A0 H0 D cA ba sh N cells slots Q σ pc ol (vI (n : Int) :: st) := by
  obtain ⟨⟨hx, hb, hml, hown, hts⟩, hK, hAa, hAq, hlk⟩ := E
  obtain ⟨d, rfl⟩ := d
  subst hN'; subst hc'; subst hsl'
  intro H locs ls hz hP hS hL
  have cn : C32 (n : Int) := by unfold C32; omega
  have en : (Int32.ofInt (n : Int)).toNatClampNeg = n := by
    show (Int32.ofInt (n : Int)).toInt.toNat = n
    rw [i_toInt cn]; omega
  refine va_newaK (atype := .int) hx hb (hts _ (tg (tb_1 (List.mem_of_getElem? (i := 137) rfl)) rfl)) rfl d rfl (by rw [show (0 : Int32) = Int32.ofInt 0 from rfl, i_lt cn c32_0]; omega) en (by show n * _ ≤ 536870912; first | (show n * 4 ≤ _; omega) | (show n * 8 ≤ _; omega) | (show n * 1 ≤ _; omega)) hcells hslots hz fun H1 cA' e1 z1 o1 hAr hNm => ?_
  have hcA : cA' = cA 0 := Option.some.inj (hNm.symm.trans (hK.2 0 _ rfl).2)
  subst hcA
  refine kk H1 locs ls (by rw [z1]; omega) ?_ ⟨Nat.le_trans hS.1 (by omega), fun x h1 h2 => (o1 x (Nat.lt_of_lt_of_le h1 (by have := hS.1; omega))).trans (hS.2.1 x h1 h2), hS.2.2⟩ hL
  rw [wl5_succ]
  refine (hP.kept (fun k x hxx => o1 x.1 (by obtain ⟨l1, rfl⟩ := wl5_lt hxx; show ba + k < ba + N; omega))).app (fun k x hxx => ?_)
  have hzz : k < 1 := (List.getElem?_eq_some_iff.mp hxx).1
  rw [show k = 0 by omega] at hxx
  cases hxx
  show va_at D classes (ba + N, mkE5 ba cA (sh N) (σ N)) H1
  have e0 : mkE5 ba cA (sh N) (σ N) = .inl (cA 0, n, .inl (fun j => Int32.ofInt (σ N j))) := by unfold mkE5; rw [hs]; rfl
  rw [e0]
  show H1[ba + N]? = some (vp_cell _ _)
  rw [e1]
  congr 1
  rw [vp_cell_i]
  congr 1
  funext j
  rw [h0]
  rfl
theorem n_new_long (E : EvN p s m args meth c cc nL own A0 H0 D cA ba) {n : Nat} (hs : sh N = (1, n, [])) (h0 : ∀ j, σ N j = 0) (hn : n < 2000000) (hcells : cells + 1 ≤ R.cells) (hslots : slots + n ≤ R.slots) (d : Dc cc pc (.newarray .long) 2 pc') {N' cells' slots' : Nat} (hN' : N + 1 = N') (hc' : cells + 1 = cells') (hsl' : slots + n = slots') (kk : GN p l e R s m args below meth c nL A0 H0 D cA ba sh N' cells' slots' Q σ pc' ol (.ref (ba + N) :: st)) : GN p l e R s m args below meth c nL A0 H0 D cA ba sh N cells slots Q σ pc ol (vI (n : Int) :: st) := by
  obtain ⟨⟨hx, hb, hml, hown, hts⟩, hK, hAa, hAq, hlk⟩ := E
  obtain ⟨d, rfl⟩ := d
  subst hN'; subst hc'; subst hsl'
  intro H locs ls hz hP hS hL
  have cn : C32 (n : Int) := by unfold C32; omega
  have en : (Int32.ofInt (n : Int)).toNatClampNeg = n := by
    show (Int32.ofInt (n : Int)).toInt.toNat = n
    rw [i_toInt cn]; omega
  refine va_newaK (atype := .long) hx hb (hts _ (tg (tb_2 (List.mem_of_getElem? (i := 109) rfl)) rfl)) rfl d rfl (by rw [show (0 : Int32) = Int32.ofInt 0 from rfl, i_lt cn c32_0]; omega) en (by show n * _ ≤ 536870912; first | (show n * 4 ≤ _; omega) | (show n * 8 ≤ _; omega) | (show n * 1 ≤ _; omega)) hcells hslots hz fun H1 cA' e1 z1 o1 hAr hNm => ?_
  have hcA : cA' = cA 1 := Option.some.inj (hNm.symm.trans (hK.2 1 _ rfl).2)
  subst hcA
  refine kk H1 locs ls (by rw [z1]; omega) ?_ ⟨Nat.le_trans hS.1 (by omega), fun x h1 h2 => (o1 x (Nat.lt_of_lt_of_le h1 (by have := hS.1; omega))).trans (hS.2.1 x h1 h2), hS.2.2⟩ hL
  rw [wl5_succ]
  refine (hP.kept (fun k x hxx => o1 x.1 (by obtain ⟨l1, rfl⟩ := wl5_lt hxx; show ba + k < ba + N; omega))).app (fun k x hxx => ?_)
  have hzz : k < 1 := (List.getElem?_eq_some_iff.mp hxx).1
  rw [show k = 0 by omega] at hxx
  cases hxx
  show va_at D classes (ba + N, mkE5 ba cA (sh N) (σ N)) H1
  have e0 : mkE5 ba cA (sh N) (σ N) = .inl (cA 1, n, .inr (.inl (fun j => Int64.ofInt (σ N j)))) := by unfold mkE5; rw [hs]; rfl
  rw [e0]
  show H1[ba + N]? = some (vp_cell _ _)
  rw [e1]
  congr 1
  rw [vp_cell_l]
  congr 1
  funext j
  rw [h0]
  rfl
theorem n_new_byte (E : EvN p s m args meth c cc nL own A0 H0 D cA ba) {n : Nat} (hs : sh N = (2, n, [])) (h0 : ∀ j, σ N j = 0) (hn : n < 2000000) (hcells : cells + 1 ≤ R.cells) (hslots : slots + n ≤ R.slots) (d : Dc cc pc (.newarray .byte) 2 pc') {N' cells' slots' : Nat} (hN' : N + 1 = N') (hc' : cells + 1 = cells') (hsl' : slots + n = slots') (kk : GN p l e R s m args below meth c nL A0 H0 D cA ba sh N' cells' slots' Q σ pc' ol (.ref (ba + N) :: st)) : GN p l e R s m args below meth c nL A0 H0 D cA ba sh N cells slots Q σ pc ol (vI (n : Int) :: st) := by
  obtain ⟨⟨hx, hb, hml, hown, hts⟩, hK, hAa, hAq, hlk⟩ := E
  obtain ⟨d, rfl⟩ := d
  subst hN'; subst hc'; subst hsl'
  intro H locs ls hz hP hS hL
  have cn : C32 (n : Int) := by unfold C32; omega
  have en : (Int32.ofInt (n : Int)).toNatClampNeg = n := by
    show (Int32.ofInt (n : Int)).toInt.toNat = n
    rw [i_toInt cn]; omega
  refine va_newaK (atype := .byte) hx hb (hts _ (tg (tb_4 (List.mem_of_getElem? (i := 96) rfl)) rfl)) rfl d rfl (by rw [show (0 : Int32) = Int32.ofInt 0 from rfl, i_lt cn c32_0]; omega) en (by show n * _ ≤ 536870912; first | (show n * 4 ≤ _; omega) | (show n * 8 ≤ _; omega) | (show n * 1 ≤ _; omega)) hcells hslots hz fun H1 cA' e1 z1 o1 hAr hNm => ?_
  have hcA : cA' = cA 2 := Option.some.inj (hNm.symm.trans (hK.2 2 _ rfl).2)
  subst hcA
  refine kk H1 locs ls (by rw [z1]; omega) ?_ ⟨Nat.le_trans hS.1 (by omega), fun x h1 h2 => (o1 x (Nat.lt_of_lt_of_le h1 (by have := hS.1; omega))).trans (hS.2.1 x h1 h2), hS.2.2⟩ hL
  rw [wl5_succ]
  refine (hP.kept (fun k x hxx => o1 x.1 (by obtain ⟨l1, rfl⟩ := wl5_lt hxx; show ba + k < ba + N; omega))).app (fun k x hxx => ?_)
  have hzz : k < 1 := (List.getElem?_eq_some_iff.mp hxx).1
  rw [show k = 0 by omega] at hxx
  cases hxx
  show va_at D classes (ba + N, mkE5 ba cA (sh N) (σ N)) H1
  have e0 : mkE5 ba cA (sh N) (σ N) = .inl (cA 2, n, .inl (fun j => Int32.ofInt (σ N j))) := by unfold mkE5; rw [hs]; rfl
  rw [e0]
  show H1[ba + N]? = some (vp_cell _ _)
  rw [e1]
  congr 1
  rw [vp_cell_i]
  congr 1
  funext j
  rw [h0]
  rfl
theorem n_new_boolean (E : EvN p s m args meth c cc nL own A0 H0 D cA ba) {n : Nat} (hs : sh N = (3, n, [])) (h0 : ∀ j, σ N j = 0) (hn : n < 2000000) (hcells : cells + 1 ≤ R.cells) (hslots : slots + n ≤ R.slots) (d : Dc cc pc (.newarray .boolean) 2 pc') {N' cells' slots' : Nat} (hN' : N + 1 = N') (hc' : cells + 1 = cells') (hsl' : slots + n = slots') (kk : GN p l e R s m args below meth c nL A0 H0 D cA ba sh N' cells' slots' Q σ pc' ol (.ref (ba + N) :: st)) : GN p l e R s m args below meth c nL A0 H0 D cA ba sh N cells slots Q σ pc ol (vI (n : Int) :: st) := by
  obtain ⟨⟨hx, hb, hml, hown, hts⟩, hK, hAa, hAq, hlk⟩ := E
  obtain ⟨d, rfl⟩ := d
  subst hN'; subst hc'; subst hsl'
  intro H locs ls hz hP hS hL
  have cn : C32 (n : Int) := by unfold C32; omega
  have en : (Int32.ofInt (n : Int)).toNatClampNeg = n := by
    show (Int32.ofInt (n : Int)).toInt.toNat = n
    rw [i_toInt cn]; omega
  refine va_newaK (atype := .boolean) hx hb (hts _ (tg (tb_1 (List.mem_of_getElem? (i := 138) rfl)) rfl)) rfl d rfl (by rw [show (0 : Int32) = Int32.ofInt 0 from rfl, i_lt cn c32_0]; omega) en (by show n * _ ≤ 536870912; first | (show n * 4 ≤ _; omega) | (show n * 8 ≤ _; omega) | (show n * 1 ≤ _; omega)) hcells hslots hz fun H1 cA' e1 z1 o1 hAr hNm => ?_
  have hcA : cA' = cA 3 := Option.some.inj (hNm.symm.trans (hK.2 3 _ rfl).2)
  subst hcA
  refine kk H1 locs ls (by rw [z1]; omega) ?_ ⟨Nat.le_trans hS.1 (by omega), fun x h1 h2 => (o1 x (Nat.lt_of_lt_of_le h1 (by have := hS.1; omega))).trans (hS.2.1 x h1 h2), hS.2.2⟩ hL
  rw [wl5_succ]
  refine (hP.kept (fun k x hxx => o1 x.1 (by obtain ⟨l1, rfl⟩ := wl5_lt hxx; show ba + k < ba + N; omega))).app (fun k x hxx => ?_)
  have hzz : k < 1 := (List.getElem?_eq_some_iff.mp hxx).1
  rw [show k = 0 by omega] at hxx
  cases hxx
  show va_at D classes (ba + N, mkE5 ba cA (sh N) (σ N)) H1
  have e0 : mkE5 ba cA (sh N) (σ N) = .inl (cA 3, n, .inl (fun j => Int32.ofInt (σ N j))) := by unfold mkE5; rw [hs]; rfl
  rw [e0]
  show H1[ba + N]? = some (vp_cell _ _)
  rw [e1]
  congr 1
  rw [vp_cell_i]
  congr 1
  funext j
  rw [h0]
  rfl
theorem n_new (E : EvN p s m args meth c cc nL own A0 H0 D cA ba) {ci nf : Nat} {C : String} {T : u_T} {idx : Nat} {ty : Nat → FieldType} {fs : List (Nat × Nat)} (co : ClsOk ci C T nf ty) (hcl : Cond.classLink own idx C ∈ gtbl) (hin : Cond.instantiable C nf ∈ gtbl) (hini : Cond.initialized C ∈ gtbl) (hs : sh N = (4, ci, fs)) (h0 : ∀ j, σ N j = 0) (hdf : ∀ j, j < nf → defaultValue (ty j) = vp_V (fvs5 0 (fun _ => 0) fs 0) j) (hcells : cells + 1 ≤ R.cells) (hslots : slots + nf ≤ R.slots) (d : Dc cc pc (.new idx) 3 pc') {N' cells' slots' : Nat} (hN' : N + 1 = N') (hc' : cells + 1 = cells') (hsl' : slots + nf = slots') (kk : GN p l e R s m args below meth c nL A0 H0 D cA ba sh N' cells' slots' Q σ pc' ol (.ref (ba + N) :: st)) : GN p l e R s m args below meth c nL A0 H0 D cA ba sh N cells slots Q σ pc ol st := by
  obtain ⟨⟨hx, hb, hml, hown, hts⟩, hK, hAa, hAq, hlk⟩ := E
  obtain ⟨d, rfl⟩ := d
  subst hN'; subst hc'; subst hsl'
  obtain ⟨hc, hinw, ht, hnm⟩ := co
  intro H locs ls hz hP hS hL
  have hKn := hK.1 ci _ hc
  refine W.newcK hx hb hown (hts _ hcl) (hts _ hin) (hts _ hini) rfl d hcells hslots hKn.2.1 hz fun H1 kC hkC e1 z1 o1 => ?_
  refine kk H1 locs ls (by rw [z1]; omega) ?_ ⟨Nat.le_trans hS.1 (by omega), fun x h1 h2 => (o1 x (Nat.lt_of_lt_of_le h1 (by have := hS.1; omega))).trans (hS.2.1 x h1 h2), hS.2.2⟩ hL
  rw [wl5_succ]
  refine (hP.kept (fun k x hxx => o1 x.1 (by obtain ⟨l1, rfl⟩ := wl5_lt hxx; show ba + k < ba + N; omega))).app (fun k x hxx => ?_)
  have hzz : k < 1 := (List.getElem?_eq_some_iff.mp hxx).1
  rw [show k = 0 by omega] at hxx
  cases hxx
  show va_at D classes (ba + N, mkE5 ba cA (sh N) (σ N)) H1
  have e0 : mkE5 ba cA (sh N) (σ N) = .inr (ci, fvs5 ba (σ N) fs 0) := by unfold mkE5; rw [hs]; rfl
  rw [e0]
  have eq0 : ∀ (fs : List (Nat × Nat)) (i : Nat), fvs5 ba (σ N) fs i = fvs5 0 (fun _ => 0) fs i := by
    intro fs
    induction fs with
    | nil => intro i; rfl
    | cons a r ih => intro i; simp only [fvs5, ih, h0]; simp
  exact ⟨_, hc, (u_born ty hts hinw hKn hkC e1 ht).to (fun j hj => by rw [eq0]; exact hdf j hj)⟩
theorem oi_code : Cond.code objectInit ⟨#[0xb1]⟩ 1 none ∈ gtbl := tg (tb_1 (List.mem_of_getElem? (i := 29) rfl)) rfl
theorem oi_inst : Cond.instanceMethod objectInit ∈ gtbl := tg (tb_1 (List.mem_of_getElem? (i := 28) rfl)) rfl
theorem n_objInit (E : EvN p s m args meth c cc nL own A0 H0 D cA ba) {idx a : Nat} (hl : Cond.methodLink own idx objectInit ∈ gtbl) (hcat : (st.map fun v => v.category).sum ≤ 8) (hR : 1 ≤ R.frames ∧ 60 ≤ R.locals) (d : Dc cc pc (.invokespecial idx) 3 pc') (k : GN p l e R s m args below meth c nL A0 H0 D cA ba sh N cells slots Q σ pc' ol st) : GN p l e R s m args below meth c nL A0 H0 D cA ba sh N cells slots Q σ pc ol (.ref a :: st) := by
  obtain ⟨⟨hx, hb, hml, hown, hts⟩, hK, hAa, hAq, hlk⟩ := E
  obtain ⟨d, rfl⟩ := d
  intro H locs ls hz hP hS hL
  exact W.objInit hx hb hown (hts _ hl) (hts _ oi_inst) (hts _ oi_code) rfl (by rw [hml]; exact hL.1) rfl d hR.1 (by show 2 * 0 + _ + 12 ≤ _; omega) (k H locs ls hz hP hS hL)
end GNs
def preN (D : va_G) (cA : Nat → ClassId) (ba : Nat) (sh : Nat → Shp) (N : Nat) (σ : St) : State → Prop := fun U => U.heap.size = ba + N ∧ va_P D classes (wl5 sh N ba cA σ) U.heap ∧ va_K D classes (tyA cA) U
def A5 (ba N : Nat) : Nat → Prop := fun q => ba ≤ q
def bN (D : va_G) (cA : Nat → ClassId) (ba : Nat) (sh : Nat → Shp) (N : Nat) : St → State → Prop := fun u t => va_P D classes (wl5 sh N ba cA u) t.heap ∧ t.heap.size = ba + N
def QNc (D : va_G) (cA : Nat → ClassId) (ba : Nat) (sh : Nat → Shp) (N : Nat) (Qp : St → Prop) (A : Nat → Prop) : Array Value → State → Outcome → State → Prop := va_Qv Qp (bN D cA ba sh N) A
def KtN (l : Launch) (D : va_G) (cA : Nat → ClassId) (ba : Nat) (sh : Nat → Shp) (N0 N1 ms : Nat) (y : MethodName) (code : ByteArray) (nL : Nat) (L : Nat) (av : List Value) (σ : St) (Qp : St → Prop) : Prop :=
  Met l y (Cond.code y code nL none :: gtbl) (rmL L (N1 - N0) ms) (va_Pc av (preN D cA ba sh N0 σ)) (QNc D cA ba sh N1 Qp (A5 ba N0)) (N1 - N0) ms (A5 ba N0)
theorem KtN.of {l : Launch} {D : va_G} {cA : Nat → ClassId} {ba : Nat} {sh : Nat → Shp} {N0 N1 ms : Nat} {y : MethodName} {code : ByteArray} {nL : Nat} {L n : Nat} {av : List Value} {σ : St} {Qp : St → Prop} (hm : MYk y code nL none n) (ol : List (Option Value)) (hl : (lg_sl av).length ≤ nL) (hol : lvL ol 0 = lv_args 0 av)
    (body : ∀ (p : Program) (e : Env) (s : State) (m : MethodId) (args : Array Value) (below : List Frame) (meth : Method) (c : Code), EvN p s m args meth c code nL y.cls (A5 ba N0) s.heap D cA ba → meth.sig.returnType = none → meth.name = y.name → GN p l e (rmL L (N1 - N0) ms) s m args below meth c nL (A5 ba N0) s.heap D cA ba sh N0 0 0 (MQ below (QNc D cA ba sh N1 Qp (A5 ba N0)) args s (N1 - N0) ms (A5 ba N0)) σ 0 ol []) : KtN l D cA ba sh N0 N1 ms y code nL L av σ Qp := by
  refine Met.ofWF (cc := code) (maxL := nL) (ret := none) hm.2.2.2.2 rfl ?_
  intro p e s m args below meth c s₁ B hml hv
  obtain ⟨rfl, hsz, hP, hK⟩ := hv
  have hts := atoms_spec (ws := Cond.code y code nL none :: gtbl) B.pre
  have hown : s.vm.findClass y.cls = some m.cls := findClass_of_methodNamed B.named
  have hl0 := lv_entry av (n := nL) hl
  rw [lg_entry_eq]
  rw [← hol] at hl0
  exact body p e s m _ below meth c ⟨⟨B.exec, B.bytes, hml, hown, fun w hw => hts w (List.mem_cons_of_mem _ hw)⟩, hK, fun i => Nat.le_add_right _ _, fun q hq => by show ba ≤ q; omega, B.notSynchronized⟩ B.returns (name_of_methodNamed B.named B.method).1 s.heap [] _ hsz hP va_S.rf hl0
section GNc
variable {p : Program} {l : Launch} {e : Env} {R : Room} {s : State} {m : MethodId} {args : Array Value} {below : List Frame} {meth : Method} {c : Code} {nL : Nat} {A0 : Nat → Prop} {H0 : Heap} {D : va_G} {cA : Nat → ClassId} {ba : Nat} {sh : Nat → Shp} {N N1 cells slots ms : Nat} {Q : State → Prop} {cc : ByteArray} {own : String}
variable {σ : St} {pc pc' tgt : Nat} {ol : List (Option Value)} {st stk : List Value} {Qp : St → Prop}
theorem n_vret (E : EvN p s m args meth c cc nL own A0 s.heap D cA ba) (hr : meth.sig.returnType = none) (hq : Qp σ) (d : Dc cc pc .return_ 1 pc') : GN p l e R s m args below meth c nL A0 s.heap D cA ba sh N cells slots (MQ below (QNc D cA ba sh N Qp A0) args s cells slots A0) σ pc ol [] := by
  obtain ⟨⟨hx, hb, hml, hown, hts⟩, hK, hAa, hAq, hlk⟩ := E
  obtain ⟨d, rfl⟩ := d
  intro H locs ls hz hP hS hL
  exact W.vret (Qc := QNc D cA ba sh N Qp A0) hx hb hr (fun t ht hW => ⟨⟨σ, rfl, hq, by show va_P _ _ _ t.heap; rw [ht]; exact hP, by rw [ht]; exact hz⟩, hS.F ht⟩) hS.2.2 d hlk
theorem preN_blind {av : List Value} : FrameBlind (va_Pc av (preN D cA ba sh N σ)) := fun a U g mk q => by
  obtain ⟨q0, q1, qP, qK⟩ := q
  exact ⟨q0, q1, qP, va_K.moved (u := U) (U := U.calling g mk a) (Vm.Alike.refl U.vm) qK⟩
theorem n_callI (E : EvN p s m args meth c cc nL own A0 H0 D cA ba) {y : MethodName} {code : ByteArray} {nL' n L' idx k : Nat} {As : List Value} (hba : ∀ q, ba ≤ q → A0 q) (hm : MYk y code nL' none n) (hi : Cond.instanceMethod y ∈ gtbl) (hin : y.name = "<init>") (hl : Cond.methodLink own idx y ∈ gtbl) (hR : (rmL L' (N1 - N) ms).frames + 1 ≤ R.frames ∧ 8 + (nL' + 11) + (rmL L' (N1 - N) ms).locals ≤ R.locals) (hcs : cells + (N1 - N) ≤ R.cells ∧ slots + ms ≤ R.slots) (kt : KtN l D cA ba sh N N1 ms y code nL' L' (.ref (ba + k) :: As) σ Qp) (hn : As.length = n) (hst : stk = As.reverse ++ .ref (ba + k) :: st) (hcat : (st.map fun v => v.category).sum ≤ 8) (d : Dc cc pc (.invokespecial idx) 3 pc') {cells' slots' : Nat} (hc' : cells + (N1 - N) = cells') (hsl' : slots + ms = slots') (kk : ∀ σ1 : St, Qp σ1 → GN p l e R s m args below meth c nL A0 H0 D cA ba sh N1 cells' slots' Q σ1 pc' ol st) : GN p l e R s m args below meth c nL A0 H0 D cA ba sh N cells slots Q σ pc ol stk := by
  subst hc'; subst hsl'
  obtain ⟨⟨hx, hb, hml, hown, hts⟩, hK, hAa, hAq, hlk⟩ := E
  obtain ⟨d, rfl⟩ := d
  intro H locs ls hz hP hS hL
  refine va_callv (S := St) (va_runI (As := As) (rest := st) (n := n) ⟨hx, hb, hml, hown, hts⟩ kt ⟨callB_of n hts (good_code hm.1) rfl rfl rfl (hts _ hm.2.1) (hts _ hl) ⟨hm.2.2.1.1, hm.2.2.1.2, hm.2.2.2.1⟩ hR, hin, hts _ hi⟩ ⟨preN_blind, fun U hU hW => ⟨rfl, by rw [hU]; exact hz, by rw [hU]; exact hP, va_K.moved hW.alike hK⟩⟩ rfl hn hL.1 hst (lv_room hcat) d hcs) hS (fun q _ h => hba q h) hba (fun u t H1 locs1 ht hvm hw hB hz1 hk1 hS1 => ?_)
  exact kk u hw H1 locs1 ls (by rw [← ht]; exact hB.2) (by rw [← ht]; exact hB.1) hS1 hL
theorem n_callV (E : EvN p s m args meth c cc nL own A0 H0 D cA ba) {y : MethodName} {code : ByteArray} {nL' n L' idx k ci nf : Nat} {T : u_T} {fs : List (Nat × Nat)} {As : List Value} (hba : ∀ q, ba ≤ q → A0 q) (hm : MYk y code nL' none n) (hi : Cond.instanceMethod y ∈ gtbl) (hsel : Cond.selects y.cls y y ∈ gtbl) (hl : Cond.methodLink own idx y ∈ gtbl) (hR : (rmL L' (N - N) 0).frames + 1 ≤ R.frames ∧ 8 + (nL' + 11) + (rmL L' (N - N) 0).locals ≤ R.locals) (hcs : cells + (N - N) ≤ R.cells ∧ slots + 0 ≤ R.slots) (hk : k < N) (hs : sh k = (4, ci, fs)) (hc : classes[ci]? = some (y.cls, T, nf)) (kt : KtN l D cA ba sh N N 0 y code nL' L' (.ref (ba + k) :: As) σ Qp) (hn : As.length = n) (hst : stk = As.reverse ++ .ref (ba + k) :: st) (hcat : (st.map fun v => v.category).sum ≤ 8) (d : Dc cc pc (.invokevirtual idx) 3 pc') {cells' slots' : Nat} (hc' : cells + (N - N) = cells') (hsl' : slots + 0 = slots') (kk : ∀ σ1 : St, Qp σ1 → GN p l e R s m args below meth c nL A0 H0 D cA ba sh N cells' slots' Q σ1 pc' ol st) : GN p l e R s m args below meth c nL A0 H0 D cA ba sh N cells slots Q σ pc ol stk := by
  subst hc'; subst hsl'
  obtain ⟨⟨hx, hb, hml, hown, hts⟩, hK, hAa, hAq, hlk⟩ := E
  obtain ⟨d, rfl⟩ := d
  intro H locs ls hz hP hS hL
  refine va_callv (S := St) (va_runV (As := As) (rest := st) (n := n) (C := y.cls) ⟨hx, hb, hml, hown, hts⟩ kt ⟨callB_of n hts (good_code hm.1) rfl rfl rfl (hts _ hm.2.1) (hts _ hl) ⟨hm.2.2.1.1, hm.2.2.1.2, hm.2.2.2.1⟩ hR, hts _ hi, hts _ hsel⟩ ⟨preN_blind, va_recv hK hP (q := (y.cls, T, nf)) hc (wl5_o hk hs), fun U hU hW => ⟨rfl, by rw [hU]; exact hz, by rw [hU]; exact hP, va_K.moved hW.alike hK⟩⟩ rfl hn hL.1 hst (lv_room hcat) d hcs) hS (fun q _ h => hba q h) hba (fun u t H1 locs1 ht hvm hw hB hz1 hk1 hS1 => ?_)
  exact kk u hw H1 locs1 ls (by rw [← ht]; exact hB.2) (by rw [← ht]; exact hB.1) hS1 hL
end GNc
