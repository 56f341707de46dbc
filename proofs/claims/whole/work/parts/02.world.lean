/-! numbers: a machine int is a whole number in its bounds -/
abbrev St : Type := Nat → Nat → Int
def C32 (x : Int) : Prop := -2147483648 ≤ x ∧ x < 2147483648
def C64 (x : Int) : Prop := -9223372036854775808 ≤ x ∧ x < 9223372036854775808
def w32 (x : Int) : Int := (Int32.ofInt x).toInt
def w64 (x : Int) : Int := (Int64.ofInt x).toInt
def vI (x : Int) : Value := .int (Int32.ofInt x)
def vL (x : Int) : Value := .long (Int64.ofInt x)
theorem c32_w (x : Int) : C32 (w32 x) := ⟨Int32.le_toInt _, Int32.toInt_lt _⟩
theorem c64_w (x : Int) : C64 (w64 x) := ⟨Int64.le_toInt _, Int64.toInt_lt _⟩
theorem w32_id {x : Int} (h : C32 x) : w32 x = x := Int32.toInt_ofInt_of_le h.1 h.2
theorem w64_id {x : Int} (h : C64 x) : w64 x = x := Int64.toInt_ofInt_of_le h.1 h.2
theorem i_w32 (x : Int) : Int32.ofInt (w32 x) = Int32.ofInt x := Int32.ofInt_toInt _
theorem l_w64 (x : Int) : Int64.ofInt (w64 x) = Int64.ofInt x := Int64.ofInt_toInt _
theorem i_toInt {x : Int} (h : C32 x) : (Int32.ofInt x).toInt = x := w32_id h
theorem l_toInt {x : Int} (h : C64 x) : (Int64.ofInt x).toInt = x := w64_id h
theorem i_lt {x y : Int} (hx : C32 x) (hy : C32 y) : (Int32.ofInt x < Int32.ofInt y) = (x < y) := by
  rw [Int32.lt_iff_toInt_lt, i_toInt hx, i_toInt hy]
theorem i_le {x y : Int} (hx : C32 x) (hy : C32 y) : (Int32.ofInt x ≤ Int32.ofInt y) = (x ≤ y) := by
  rw [Int32.le_iff_toInt_le, i_toInt hx, i_toInt hy]
theorem i_eq {x y : Int} (hx : C32 x) (hy : C32 y) : (Int32.ofInt x = Int32.ofInt y) = (x = y) := by
  rw [← Int32.toInt_inj, i_toInt hx, i_toInt hy]
theorem l_lt {x y : Int} (hx : C64 x) (hy : C64 y) : (Int64.ofInt x < Int64.ofInt y) = (x < y) := by
  rw [Int64.lt_iff_toInt_lt, l_toInt hx, l_toInt hy]
theorem l_eq {x y : Int} (hx : C64 x) (hy : C64 y) : (Int64.ofInt x = Int64.ofInt y) = (x = y) := by
  rw [← Int64.toInt_inj, l_toInt hx, l_toInt hy]
theorem c32_0 : C32 0 := by unfold C32; omega
theorem c32_of_c64 {x : Int} (h : C32 x) : C64 x := by unfold C32 at h; unfold C64; omega
/-! bits, shifts, remainders: by the machine's own -/
def b_and (x y : Int) : Int := (Int32.ofInt x &&& Int32.ofInt y).toInt
def b_or (x y : Int) : Int := (Int32.ofInt x ||| Int32.ofInt y).toInt
def b_xor (x y : Int) : Int := (Int32.ofInt x ^^^ Int32.ofInt y).toInt
def b_shl (x y : Int) : Int := (Int32.ofInt x <<< (Int32.ofInt y &&& 31)).toInt
def b_shr (x y : Int) : Int := (Int32.ofInt x >>> (Int32.ofInt y &&& 31)).toInt
def b_ushr (x y : Int) : Int := ((Int32.ofInt x).toUInt32 >>> ((Int32.ofInt y).toUInt32 &&& Int32.toUInt32 31)).toInt32.toInt
def b_div (x y : Int) : Int := (Int32.ofInt x / Int32.ofInt y).toInt
def b_rem (x y : Int) : Int := (Int32.ofInt x - Int32.ofInt x / Int32.ofInt y * Int32.ofInt y).toInt
def b_byte (x : Int) : Int := (Int32.ofInt x).toInt8.toInt32.toInt
def b_char (x : Int) : Int := ((Int32.ofInt x).toUInt32 % 65536).toInt32.toInt
def l_and (x y : Int) : Int := (Int64.ofInt x &&& Int64.ofInt y).toInt
def l_or (x y : Int) : Int := (Int64.ofInt x ||| Int64.ofInt y).toInt
def l_xor (x y : Int) : Int := (Int64.ofInt x ^^^ Int64.ofInt y).toInt
def l_shl (x y : Int) : Int := (Int64.ofInt x <<< ((Int32.ofInt y).toInt64 &&& 63)).toInt
def l_shr (x y : Int) : Int := (Int64.ofInt x >>> ((Int32.ofInt y).toInt64 &&& 63)).toInt
def l_ushr (x y : Int) : Int := ((Int64.ofInt x).toUInt64 >>> ((Int32.ofInt y).toInt64.toUInt64 &&& Int64.toUInt64 63)).toInt64.toInt
def l_div (x y : Int) : Int := (Int64.ofInt x / Int64.ofInt y).toInt
def l_rem (x y : Int) : Int := (Int64.ofInt x - Int64.ofInt x / Int64.ofInt y * Int64.ofInt y).toInt
def l_int (x : Int) : Int := (Int64.ofInt x).toInt32.toInt
theorem c32_t (x : Int32) : C32 x.toInt := ⟨Int32.le_toInt _, Int32.toInt_lt _⟩
theorem c64_t (x : Int64) : C64 x.toInt := ⟨Int64.le_toInt _, Int64.toInt_lt _⟩
/-! the store: what the cells of a world hold; a world's shape -/
abbrev Shp : Type := Nat × Nat × List (Nat × Nat)
def upS (σ : St) (k j : Nat) (v : Int) : St := fun a b => if a = k ∧ b = j then v else σ a b
def fvs (ad : Nat → Nat) (c : Nat → Int) (fs : List (Nat × Nat)) (i : Nat) : List Value := match fs with
  | [] => []
  | q :: r => (if q.1 = 0 then vI (c i) else if q.1 = 1 then vL (c i) else if q.1 = 2 then .ref (ad q.2) else .null) :: fvs ad c r (i + 1)
def mkE (ad : Nat → Nat) (cA : Nat → ClassId) (q : Shp) (c : Nat → Int) : va_E :=
  if q.1 = 1 then .inl (cA 1, q.2.1, .inr (.inl (fun j => Int64.ofInt (c j))))
  else if q.1 = 4 then .inr (q.2.1, fvs ad c q.2.2 0)
  else .inl (cA q.1, q.2.1, .inl (fun j => Int32.ofInt (c j)))
def wl (sh : Nat → Shp) (N : Nat) (ad : Nat → Nat) (cA : Nat → ClassId) (σ : St) : va_W := (List.range N).map (fun k => (ad k, mkE ad cA (sh k) (σ k)))
def canK (q : Shp) (c : Nat → Int) : Prop :=
  if q.1 = 1 then ∀ j, C64 (c j) else if q.1 = 4 then ∀ f z, (q.2.2[f]? = some (0, z) → C32 (c f)) ∧ (q.2.2[f]? = some (1, z) → C64 (c f)) else ∀ j, C32 (c j)
def CanS (sh : Nat → Shp) (N : Nat) (σ : St) : Prop := ∀ k, k < N → canK (sh k) (σ k)
def AdOk (N : Nat) (ad : Nat → Nat) : Prop := ∀ i j, i < N → j < N → ad i = ad j → i = j
theorem wl_get {sh : Nat → Shp} {N : Nat} {ad : Nat → Nat} {cA : Nat → ClassId} {σ : St} {k : Nat} (hk : k < N) : (wl sh N ad cA σ)[k]? = some (ad k, mkE ad cA (sh k) (σ k)) := by
  simp [wl, hk]
theorem wl_lt {sh : Nat → Shp} {N : Nat} {ad : Nat → Nat} {cA : Nat → ClassId} {σ : St} {k : Nat} {q : Nat × va_E} (h : (wl sh N ad cA σ)[k]? = some q) : k < N ∧ q = (ad k, mkE ad cA (sh k) (σ k)) := by
  have hk : k < N := by
    have := (List.getElem?_eq_some_iff.mp h).1
    simpa [wl] using this
  rw [wl_get hk] at h
  exact ⟨hk, (Option.some.inj h).symm⟩
theorem wl_set {sh : Nat → Shp} {N : Nat} {ad : Nat → Nat} {cA : Nat → ClassId} {σ σ' : St} {k : Nat} (h : ∀ j, j ≠ k → σ' j = σ j) : (wl sh N ad cA σ).set k (ad k, mkE ad cA (sh k) (σ' k)) = wl sh N ad cA σ' := by
  apply List.ext_getElem?
  intro i
  by_cases hi : i < N
  · by_cases hik : i = k
    · subst hik
      rw [wl_get hi, List.getElem?_set_self (by simpa [wl] using hi)]
    · rw [List.getElem?_set_ne (fun e => hik e.symm), wl_get hi, wl_get hi, h i hik]
  · have h1 : ((wl sh N ad cA σ).set k (ad k, mkE ad cA (sh k) (σ' k))).length ≤ i := by simp [wl]; omega
    have h2 : (wl sh N ad cA σ').length ≤ i := by simp [wl]; omega
    rw [List.getElem?_eq_none h1, List.getElem?_eq_none h2]
theorem upS_ne {σ : St} {k j : Nat} {v : Int} : ∀ a, a ≠ k → upS σ k j v a = σ a := by
  intro a ha
  funext b
  simp [upS, ha]
theorem upS_eq {σ : St} {k j : Nat} {v : Int} : upS σ k j v k = fun b => if b = j then v else σ k b := by
  funext b
  simp [upS]
theorem fvs_get {ad : Nat → Nat} {c : Nat → Int} : ∀ (fs : List (Nat × Nat)) (i f : Nat) (q : Nat × Nat), fs[f]? = some q → (fvs ad c fs i)[f]? = some (if q.1 = 0 then vI (c (i + f)) else if q.1 = 1 then vL (c (i + f)) else if q.1 = 2 then .ref (ad q.2) else .null) := by
  intro fs
  induction fs with
  | nil => intro i f q h; simp at h
  | cons a r ih =>
    intro i f q h
    cases f with
    | zero => simp at h; subst h; simp [fvs]
    | succ f =>
      have := ih (i + 1) f q (by simpa using h)
      simp only [fvs, List.getElem?_cons_succ]
      rw [this, show i + 1 + f = i + (f + 1) by omega]
theorem fvs_len {ad : Nat → Nat} {c : Nat → Int} : ∀ (fs : List (Nat × Nat)) (i : Nat), (fvs ad c fs i).length = fs.length := by
  intro fs
  induction fs with
  | nil => intro i; rfl
  | cons a r ih => intro i; simp [fvs, ih]
theorem fvs_set {ad : Nat → Nat} {c : Nat → Int} {w : Value} {x : Int} : ∀ (fs : List (Nat × Nat)) (i f : Nat) (q : Nat × Nat), fs[f]? = some q → (if q.1 = 0 then vI x else if q.1 = 1 then vL x else if q.1 = 2 then .ref (ad q.2) else .null) = w → (fvs ad c fs i).set f w = fvs ad (fun b => if b = i + f then x else c b) fs i := by
  intro fs
  induction fs with
  | nil => intro i f q h; simp at h
  | cons a r ih =>
    intro i f q h hw
    cases f with
    | zero =>
      simp at h; subst h
      simp only [fvs, List.set_cons_zero, Nat.add_zero, if_true]
      rw [hw]
      congr 1
      have : ∀ (fs : List (Nat × Nat)) (n : Nat), i < n → fvs ad c fs n = fvs ad (fun b => if b = i then x else c b) fs n := by
        intro fs
        induction fs with
        | nil => intro n _; rfl
        | cons a r ih2 =>
          intro n hn
          simp only [fvs]
          rw [ih2 (n + 1) (by omega), if_neg (show n ≠ i by omega)]
      exact this r (i + 1) (by omega)
    | succ f =>
      have := ih (i + 1) f q (by simpa using h) hw
      simp only [fvs, List.set_cons_succ]
      rw [this, show i + 1 + f = i + (f + 1) by omega, if_neg (show i ≠ i + (f + 1) by omega)]
theorem CanS.i32 {sh : Nat → Shp} {N : Nat} {σ : St} (h : CanS sh N σ) {k n : Nat} (t : Nat) (hk : k < N) (hs : sh k = (t, n, [])) (ht : t ≠ 1 ∧ t ≠ 4) (j : Nat) : C32 (σ k j) := by
  have := h k hk
  unfold canK at this
  rw [hs] at this
  rw [if_neg ht.1, if_neg ht.2] at this
  exact this j
theorem CanS.i64 {sh : Nat → Shp} {N : Nat} {σ : St} (h : CanS sh N σ) {k n : Nat} (hk : k < N) (hs : sh k = (1, n, [])) (j : Nat) : C64 (σ k j) := by
  have := h k hk
  unfold canK at this
  rw [hs] at this
  rw [if_pos rfl] at this
  exact this j
theorem CanS.f32 {sh : Nat → Shp} {N : Nat} {σ : St} (h : CanS sh N σ) {k n f z : Nat} {fs : List (Nat × Nat)} (hk : k < N) (hs : sh k = (4, n, fs)) (hf : fs[f]? = some (0, z)) : C32 (σ k f) := by
  have := h k hk
  unfold canK at this
  rw [hs] at this
  rw [if_neg (show ¬ (4 : Nat) = 1 by decide), if_pos rfl] at this
  exact (this f z).1 hf
theorem CanS.f64 {sh : Nat → Shp} {N : Nat} {σ : St} (h : CanS sh N σ) {k n f z : Nat} {fs : List (Nat × Nat)} (hk : k < N) (hs : sh k = (4, n, fs)) (hf : fs[f]? = some (1, z)) : C64 (σ k f) := by
  have := h k hk
  unfold canK at this
  rw [hs] at this
  rw [if_neg (show ¬ (4 : Nat) = 1 by decide), if_pos rfl] at this
  exact (this f z).2 hf
theorem CanS.up {sh : Nat → Shp} {N : Nat} {σ : St} (h : CanS sh N σ) {k j : Nat} {v : Int} (hv : canK (sh k) (fun b => if b = j then v else σ k b)) : CanS sh N (upS σ k j v) := by
  intro a ha
  by_cases hak : a = k
  · subst hak
    rw [upS_eq]; exact hv
  · rw [upS_ne a hak]; exact h a ha
theorem CanS.u32 {sh : Nat → Shp} {N : Nat} {σ : St} (h : CanS sh N σ) {k n j : Nat} {v : Int} (t : Nat) (hk : k < N) (hs : sh k = (t, n, [])) (ht : t ≠ 1 ∧ t ≠ 4) (hv : C32 v) : CanS sh N (upS σ k j v) := by
  refine h.up ?_
  unfold canK
  rw [hs, if_neg ht.1, if_neg ht.2]
  intro b
  dsimp only
  split
  · exact hv
  · exact h.i32 t hk hs ht b
theorem CanS.u64 {sh : Nat → Shp} {N : Nat} {σ : St} (h : CanS sh N σ) {k n j : Nat} {v : Int} (hk : k < N) (hs : sh k = (1, n, [])) (hv : C64 v) : CanS sh N (upS σ k j v) := by
  refine h.up ?_
  unfold canK
  rw [hs, if_pos rfl]
  intro b
  dsimp only
  split
  · exact hv
  · exact h.i64 hk hs b
theorem CanS.uf {sh : Nat → Shp} {N : Nat} {σ : St} (h : CanS sh N σ) {k n f z : Nat} {fs : List (Nat × Nat)} {v : Int} (hk : k < N) (hs : sh k = (4, n, fs)) (hf : fs[f]? = some (0, z)) (hv : C32 v) : CanS sh N (upS σ k f v) := by
  refine h.up ?_
  unfold canK
  rw [hs, if_neg (show ¬ (4 : Nat) = 1 by decide), if_pos rfl]
  intro b z'
  dsimp only
  split
  · next e => subst e; exact ⟨fun _ => hv, fun e => by rw [hf] at e; cases e⟩
  · exact ⟨fun e => h.f32 hk hs e, fun e => h.f64 hk hs e⟩
theorem CanS.ufl {sh : Nat → Shp} {N : Nat} {σ : St} (h : CanS sh N σ) {k n f z : Nat} {fs : List (Nat × Nat)} {v : Int} (hk : k < N) (hs : sh k = (4, n, fs)) (hf : fs[f]? = some (1, z)) (hv : C64 v) : CanS sh N (upS σ k f v) := by
  refine h.up ?_
  unfold canK
  rw [hs, if_neg (show ¬ (4 : Nat) = 1 by decide), if_pos rfl]
  intro b z'
  dsimp only
  split
  · next e => subst e; exact ⟨fun e => (by rw [hf] at e; cases e), fun _ => hv⟩
  · exact ⟨fun e => h.f32 hk hs e, fun e => h.f64 hk hs e⟩
/-! locals by their places -/
def lvL (ol : List (Option Value)) (i : Nat) : List (Nat × Value) := match ol with
  | [] => []
  | none :: r => lvL r (i + 1)
  | some v :: r => (i, v) :: lvL r (i + 1)
theorem lvL_mem {q : Nat × Value} : ∀ (ol : List (Option Value)) (i : Nat), q ∈ lvL ol i ↔ ∃ k, ol[k]? = some (some q.2) ∧ q.1 = i + k := by
  intro ol
  induction ol with
  | nil => intro i; simp [lvL]
  | cons a r ih =>
    intro i
    cases a with
    | none =>
      simp only [lvL, ih]
      constructor
      · rintro ⟨k, h1, h2⟩; exact ⟨k + 1, by simpa using h1, by omega⟩
      · rintro ⟨k, h1, h2⟩
        cases k with
        | zero => simp at h1
        | succ k => exact ⟨k, by simpa using h1, by omega⟩
    | some v =>
      simp only [lvL, List.mem_cons, ih]
      constructor
      · rintro (rfl | ⟨k, h1, h2⟩)
        · exact ⟨0, by simp, by simp⟩
        · exact ⟨k + 1, by simpa using h1, by omega⟩
      · rintro ⟨k, h1, h2⟩
        cases k with
        | zero => left; simp at h1; exact Prod.ext (by simpa using h2) h1.symm
        | succ k => right; exact ⟨k, by simpa using h1, by omega⟩
def Lh (ls : Array Slot) (nL : Nat) (ol : List (Option Value)) : Prop := lv_has ls nL (lvL ol 0)
theorem Lh.at {ls : Array Slot} {nL : Nat} {ol : List (Option Value)} (h : Lh ls nL ol) {i : Nat} {v : Value} (hi : ol[i]? = some (some v)) : ls[i]? = some (.val v) :=
  h.2.2 (i, v) ((lvL_mem ol 0).mpr ⟨i, hi, by simp⟩)
/-- fewer places known -/
def Wk (a b : List (Option Value)) : Prop := ∀ (k : Nat) (v : Value), a[k]? = some (some v) → b[k]? = some (some v)
theorem w_n {b : List (Option Value)} : Wk [] b := fun k v h => by simp at h
theorem w_k {x : Option Value} {a b : List (Option Value)} (h : Wk a b) : Wk (x :: a) (x :: b) := fun k v e => by
  cases k with
  | zero => simpa using e
  | succ k => simpa using h k v (by simpa using e)
theorem w_d {x : Option Value} {a b : List (Option Value)} (h : Wk a b) : Wk (none :: a) (x :: b) := fun k v e => by
  cases k with
  | zero => simp at e
  | succ k => simpa using h k v (by simpa using e)
theorem Lh.weak {ls : Array Slot} {nL : Nat} {a b : List (Option Value)} (h : Lh ls nL b) (w : Wk a b) : Lh ls nL a := by
  refine ⟨h.1, h.2.1, fun q hq => ?_⟩
  obtain ⟨k, h1, h2⟩ := (lvL_mem a 0).mp hq
  exact h.2.2 q ((lvL_mem b 0).mpr ⟨k, w k _ h1, h2⟩)
def okP (a : Option Value) : Bool := match a with
  | none => true
  | some v => v.category == 1
/-- what stands ahead of the place isn't a long -/
def okA (ol : List (Option Value)) (i : Nat) : Bool := i == 0 || okP (ol.getD (i - 1) none)
theorem lvL_set1 {ol : List (Option Value)} {i : Nat} {v : Value} (hp : okA ol i = true) : ∀ q ∈ lvL (ol.set i (some v)) 0, q ∈ (i, v) :: (lvL ol 0).filter (fun q => !(q.1 == i) && !(q.1 + 1 == i && q.2.category == 2)) := by
  intro q hq
  obtain ⟨k, h1, h2⟩ := (lvL_mem _ 0).mp hq
  have h2 : q.1 = k := by omega
  by_cases hk : k = i
  · subst hk
    have hl : k < ol.length := by
      have := (List.getElem?_eq_some_iff.mp h1).1
      simpa using this
    rw [List.getElem?_set_self hl] at h1
    have h1 : v = q.2 := Option.some.inj (Option.some.inj h1)
    exact List.mem_cons.mpr (Or.inl (Prod.ext h2 h1.symm))
  · rw [List.getElem?_set_ne (fun e => hk e.symm)] at h1
    refine List.mem_cons.mpr (Or.inr (List.mem_filter.mpr ⟨(lvL_mem ol 0).mpr ⟨k, h1, by omega⟩, ?_⟩))
    have h3 : (q.1 == i) = false := by simp [h2, hk]
    have h4 : (q.1 + 1 == i && q.2.category == 2) = false := by
      by_cases hki : k + 1 = i
      · subst hki
        have hp : okP (ol.getD k none) = true := by
          simpa [okA] using hp
        have hg : ol.getD k none = some q.2 := by rw [List.getD_eq_getElem?_getD, h1]; rfl
        rw [hg] at hp
        have hc : q.2.category = 1 := by simpa [okP] using hp
        simp [hc]
      · simp [h2, hki]
    simp [h3, h4]
theorem lvL_set2 {ol : List (Option Value)} {i : Nat} {v : Value} (hp : okA ol i = true) : ∀ q ∈ lvL ((ol.set i (some v)).set (i + 1) none) 0, q ∈ (i, v) :: (lvL ol 0).filter (fun q => !(q.1 == i) && (!(q.1 == i + 1) && !(q.1 + 1 == i && q.2.category == 2))) := by
  intro q hq
  obtain ⟨k, h1, h2⟩ := (lvL_mem _ 0).mp hq
  have h2 : q.1 = k := by omega
  have hne : k ≠ i + 1 := by
    intro e
    subst e
    have hl : i + 1 < (ol.set i (some v)).length := by
      have := (List.getElem?_eq_some_iff.mp h1).1
      simpa using this
    rw [List.getElem?_set_self hl] at h1
    cases h1
  rw [List.getElem?_set_ne (fun e => hne e.symm)] at h1
  by_cases hk : k = i
  · subst hk
    have hl : k < ol.length := by
      have := (List.getElem?_eq_some_iff.mp h1).1
      simpa using this
    rw [List.getElem?_set_self hl] at h1
    have h1 : v = q.2 := Option.some.inj (Option.some.inj h1)
    exact List.mem_cons.mpr (Or.inl (Prod.ext h2 h1.symm))
  · rw [List.getElem?_set_ne (fun e => hk e.symm)] at h1
    refine List.mem_cons.mpr (Or.inr (List.mem_filter.mpr ⟨(lvL_mem ol 0).mpr ⟨k, h1, by omega⟩, ?_⟩))
    have h3 : (q.1 == i) = false := by simp [h2, hk]
    have h5 : (q.1 == i + 1) = false := by simp [h2, hne]
    have h4 : (q.1 + 1 == i && q.2.category == 2) = false := by
      by_cases hki : k + 1 = i
      · subst hki
        have hp : okP (ol.getD k none) = true := by
          simpa [okA] using hp
        have hg : ol.getD k none = some q.2 := by rw [List.getD_eq_getElem?_getD, h1]; rfl
        rw [hg] at hp
        have hc : q.2.category = 1 := by simpa [okP] using hp
        simp [hc]
      · simp [h2, hki]
    simp [h3, h4, h5]
theorem lv_more {ls : Array Slot} {nL : Nat} {a b : List (Nat × Value)} (h : lv_has ls nL b) (w : ∀ q ∈ a, q ∈ b) : lv_has ls nL a := ⟨h.1, h.2.1, fun q hq => h.2.2 q (w q hq)⟩
