theorem wl_i {sh : Nat → Shp} {N : Nat} {ad : Nat → Nat} {cA : Nat → ClassId} {σ : St} {k n t : Nat} (hk : k < N) (hs : sh k = (t, n, [])) (ht : t ≠ 1 ∧ t ≠ 4) : (wl sh N ad cA σ)[k]? = some (ad k, .inl (cA t, n, .inl (fun j => Int32.ofInt (σ k j)))) := by
  rw [wl_get hk]; unfold mkE; rw [hs, if_neg ht.1, if_neg ht.2]
theorem wl_l {sh : Nat → Shp} {N : Nat} {ad : Nat → Nat} {cA : Nat → ClassId} {σ : St} {k n : Nat} (hk : k < N) (hs : sh k = (1, n, [])) : (wl sh N ad cA σ)[k]? = some (ad k, .inl (cA 1, n, .inr (.inl (fun j => Int64.ofInt (σ k j))))) := by
  rw [wl_get hk]; unfold mkE; rw [hs, if_pos rfl]
theorem wl_o {sh : Nat → Shp} {N : Nat} {ad : Nat → Nat} {cA : Nat → ClassId} {σ : St} {k ci : Nat} {fs : List (Nat × Nat)} (hk : k < N) (hs : sh k = (4, ci, fs)) : (wl sh N ad cA σ)[k]? = some (ad k, .inr (ci, fvs ad (σ k) fs 0)) := by
  rw [wl_get hk]; unfold mkE; rw [hs, if_neg (show ¬ (4 : Nat) = 1 by decide), if_pos rfl]
theorem wl_ui {sh : Nat → Shp} {N : Nat} {ad : Nat → Nat} {cA : Nat → ClassId} {σ : St} {k n t j : Nat} {x : Int} (hs : sh k = (t, n, [])) (ht : t ≠ 1 ∧ t ≠ 4) : (wl sh N ad cA σ).set k (ad k, .inl (cA t, n, .inl (upd (fun j => Int32.ofInt (σ k j)) j (Int32.ofInt x)))) = wl sh N ad cA (upS σ k j x) := by
  rw [← wl_set (σ := σ) (σ' := upS σ k j x) (k := k) upS_ne]
  congr 1
  unfold mkE
  rw [hs, if_neg ht.1, if_neg ht.2, upS_eq]
  have : (upd (fun j => Int32.ofInt (σ k j)) j (Int32.ofInt x)) = (fun j_1 => Int32.ofInt (if j_1 = j then x else σ k j_1)) := by
    funext b
    unfold upd
    split <;> rfl
  rw [this]
theorem wl_ul {sh : Nat → Shp} {N : Nat} {ad : Nat → Nat} {cA : Nat → ClassId} {σ : St} {k n j : Nat} {x : Int} (hs : sh k = (1, n, [])) : (wl sh N ad cA σ).set k (ad k, .inl (cA 1, n, .inr (.inl (vp_updL (fun j => Int64.ofInt (σ k j)) j (Int64.ofInt x))))) = wl sh N ad cA (upS σ k j x) := by
  rw [← wl_set (σ := σ) (σ' := upS σ k j x) (k := k) upS_ne]
  congr 1
  unfold mkE
  rw [hs, if_pos rfl, upS_eq]
  have : (vp_updL (fun j => Int64.ofInt (σ k j)) j (Int64.ofInt x)) = (fun j_1 => Int64.ofInt (if j_1 = j then x else σ k j_1)) := by
    funext b
    unfold vp_updL
    split <;> rfl
  rw [this]
theorem wl_uo {sh : Nat → Shp} {N : Nat} {ad : Nat → Nat} {cA : Nat → ClassId} {σ : St} {k ci f : Nat} {fs : List (Nat × Nat)} {q : Nat × Nat} {x : Int} {w : Value} (hs : sh k = (4, ci, fs)) (hf : fs[f]? = some q) (hw : (if q.1 = 0 then vI x else if q.1 = 1 then vL x else if q.1 = 2 then .ref (ad q.2) else .null) = w) : (wl sh N ad cA σ).set k (ad k, .inr (ci, (fvs ad (σ k) fs 0).set f w)) = wl sh N ad cA (upS σ k f x) := by
  rw [← wl_set (σ := σ) (σ' := upS σ k f x) (k := k) upS_ne]
  congr 1
  unfold mkE
  rw [hs, if_neg (show ¬ (4 : Nat) = 1 by decide), if_pos rfl, upS_eq, fvs_set fs 0 f q hf hw]
  simp only [Nat.zero_add]
section GM
variable {p : Program} {l : Launch} {e : Env} {R : Room} {s : State} {m : MethodId} {args : Array Value} {below : List Frame} {meth : Method} {c : Code} {nL : Nat} {A0 : Nat → Prop} {D : va_G} {cA : Nat → ClassId} {ad : Nat → Nat} {sh : Nat → Shp} {N cells slots : Nat} {Q : State → Prop} {cc : ByteArray} {own : String} {Z : (Nat → Nat) × (Nat → Nat)}
variable {σ : St} {pc pc' tgt : Nat} {ol : List (Option Value)} {st : List Value}
theorem g_getI (E : Ev p s m args meth c cc nL own A0 D cA ad N Z) {idx ci f k n : Nat} {C : String} {T : u_T} {ty : Nat → FieldType} {fs : List (Nat × Nat)} {z : Nat} (fl : FLk own idx ci C T n ty f) (hk : k < N) (hs : sh k = (4, ci, fs)) (hf : fs[f]? = some (0, z)) (d : Dc cc pc (.getfield idx) 3 pc') (kk : G p l e R s m args below meth c nL A0 D cA ad sh N cells slots Q σ pc' ol (vI (σ k f) :: st)) : G p l e R s m args below meth c nL A0 D cA ad sh N cells slots Q σ pc ol (.ref (ad k) :: st) := by
  obtain ⟨⟨hx, hb, hml, hown, hts⟩, hK, hA, hAa, hAq, hlk, hZx⟩ := E
  obtain ⟨⟨hc, hin, -, -⟩, hfn, hT, hl⟩ := fl
  obtain ⟨d, rfl⟩ := d
  intro H locs ls hP hS hL
  refine va_get hx hb hts hin hown hK hP k (wl_o hk hs) hc f hfn (ref := C) (hts _ hl) (by rw [hT]; exact fun x h => h) (v := vI (σ k f)) ?_ d (kk H locs ls hP hS hL)
  have := fvs_get (ad := ad) (c := σ k) fs 0 f _ hf
  simpa using this
theorem g_getL (E : Ev p s m args meth c cc nL own A0 D cA ad N Z) {idx ci f k n : Nat} {C : String} {T : u_T} {ty : Nat → FieldType} {fs : List (Nat × Nat)} {z : Nat} (fl : FLk own idx ci C T n ty f) (hk : k < N) (hs : sh k = (4, ci, fs)) (hf : fs[f]? = some (1, z)) (d : Dc cc pc (.getfield idx) 3 pc') (kk : G p l e R s m args below meth c nL A0 D cA ad sh N cells slots Q σ pc' ol (vL (σ k f) :: st)) : G p l e R s m args below meth c nL A0 D cA ad sh N cells slots Q σ pc ol (.ref (ad k) :: st) := by
  obtain ⟨⟨hx, hb, hml, hown, hts⟩, hK, hA, hAa, hAq, hlk, hZx⟩ := E
  obtain ⟨⟨hc, hin, -, -⟩, hfn, hT, hl⟩ := fl
  obtain ⟨d, rfl⟩ := d
  intro H locs ls hP hS hL
  refine va_get hx hb hts hin hown hK hP k (wl_o hk hs) hc f hfn (ref := C) (hts _ hl) (by rw [hT]; exact fun x h => h) (v := vL (σ k f)) ?_ d (kk H locs ls hP hS hL)
  have := fvs_get (ad := ad) (c := σ k) fs 0 f _ hf
  simpa using this
theorem g_getR (E : Ev p s m args meth c cc nL own A0 D cA ad N Z) {idx ci f k n : Nat} {C : String} {T : u_T} {ty : Nat → FieldType} {fs : List (Nat × Nat)} {z : Nat} (fl : FLk own idx ci C T n ty f) (hk : k < N) (hs : sh k = (4, ci, fs)) (hf : fs[f]? = some (2, z)) (d : Dc cc pc (.getfield idx) 3 pc') (kk : G p l e R s m args below meth c nL A0 D cA ad sh N cells slots Q σ pc' ol (.ref (ad z) :: st)) : G p l e R s m args below meth c nL A0 D cA ad sh N cells slots Q σ pc ol (.ref (ad k) :: st) := by
  obtain ⟨⟨hx, hb, hml, hown, hts⟩, hK, hA, hAa, hAq, hlk, hZx⟩ := E
  obtain ⟨⟨hc, hin, -, -⟩, hfn, hT, hl⟩ := fl
  obtain ⟨d, rfl⟩ := d
  intro H locs ls hP hS hL
  refine va_get hx hb hts hin hown hK hP k (wl_o hk hs) hc f hfn (ref := C) (hts _ hl) (by rw [hT]; exact fun x h => h) (v := .ref (ad z)) ?_ d (kk H locs ls hP hS hL)
  have := fvs_get (ad := ad) (c := σ k) fs 0 f _ hf
  simpa using this
theorem g_getN (E : Ev p s m args meth c cc nL own A0 D cA ad N Z) {idx ci f k n : Nat} {C : String} {T : u_T} {ty : Nat → FieldType} {fs : List (Nat × Nat)} {z : Nat} (fl : FLk own idx ci C T n ty f) (hk : k < N) (hs : sh k = (4, ci, fs)) (hf : fs[f]? = some (3, z)) (d : Dc cc pc (.getfield idx) 3 pc') (kk : G p l e R s m args below meth c nL A0 D cA ad sh N cells slots Q σ pc' ol (.null :: st)) : G p l e R s m args below meth c nL A0 D cA ad sh N cells slots Q σ pc ol (.ref (ad k) :: st) := by
  obtain ⟨⟨hx, hb, hml, hown, hts⟩, hK, hA, hAa, hAq, hlk, hZx⟩ := E
  obtain ⟨⟨hc, hin, -, -⟩, hfn, hT, hl⟩ := fl
  obtain ⟨d, rfl⟩ := d
  intro H locs ls hP hS hL
  refine va_get hx hb hts hin hown hK hP k (wl_o hk hs) hc f hfn (ref := C) (hts _ hl) (by rw [hT]; exact fun x h => h) (v := .null) ?_ d (kk H locs ls hP hS hL)
  have := fvs_get (ad := ad) (c := σ k) fs 0 f _ hf
  simpa using this
theorem g_putI (E : Ev p s m args meth c cc nL own A0 D cA ad N Z) {idx ci f k n : Nat} {C : String} {T : u_T} {ty : Nat → FieldType} {fs : List (Nat × Nat)} {z : Nat} {x : Int} (fl : FLk own idx ci C T n ty f) (hfin : (T f).2.2.2 = false) (hty : ty f = .int) (hk : k < N) (hs : sh k = (4, ci, fs)) (hf : fs[f]? = some (0, z)) (d : Dc cc pc (.putfield idx) 3 pc') (kk : G p l e R s m args below meth c nL A0 D cA ad sh N cells slots Q (upS σ k f x) pc' ol st) : G p l e R s m args below meth c nL A0 D cA ad sh N cells slots Q σ pc ol (vI x :: .ref (ad k) :: st) := by
  obtain ⟨⟨hx, hb, hml, hown, hts⟩, hK, hA, hAa, hAq, hlk, hZx⟩ := E
  obtain ⟨⟨hc, hin, ht, hnm⟩, hfn, hT, hl⟩ := fl
  obtain ⟨d, rfl⟩ := d
  intro H locs ls hP hS hL
  refine va_put hx hb hts hin ty ht hnm hown hK hP (wl_D hA hAa) hS k (wl_o hk hs) hc f hfn (ref := C) (hts _ hl) (by rw [hT]; exact fun x h => h) hfin (ty := .int) (v := vI x) (by rw [ht f hfn, hty]) rfl rfl (by rw [fvs_len]; exact (List.getElem?_eq_some_iff.mp hf).1) d (fun H1 locs1 hP1 _ hS1 => ?_)
  rw [wl_uo (x := x) hs hf (by rfl)] at hP1
  exact kk H1 locs1 ls hP1 hS1 hL
theorem g_putZ (E : Ev p s m args meth c cc nL own A0 D cA ad N Z) {idx ci f k n : Nat} {C : String} {T : u_T} {ty : Nat → FieldType} {fs : List (Nat × Nat)} {z : Nat} {x : Int} (fl : FLk own idx ci C T n ty f) (hfin : (T f).2.2.2 = false) (hty : ty f = .boolean) (h01 : x = 0 ∨ x = 1) (hk : k < N) (hs : sh k = (4, ci, fs)) (hf : fs[f]? = some (0, z)) (d : Dc cc pc (.putfield idx) 3 pc') (kk : G p l e R s m args below meth c nL A0 D cA ad sh N cells slots Q (upS σ k f x) pc' ol st) : G p l e R s m args below meth c nL A0 D cA ad sh N cells slots Q σ pc ol (vI x :: .ref (ad k) :: st) := by
  obtain ⟨⟨hx, hb, hml, hown, hts⟩, hK, hA, hAa, hAq, hlk, hZx⟩ := E
  obtain ⟨⟨hc, hin, ht, hnm⟩, hfn, hT, hl⟩ := fl
  obtain ⟨d, rfl⟩ := d
  intro H locs ls hP hS hL
  refine va_put hx hb hts hin ty ht hnm hown hK hP (wl_D hA hAa) hS k (wl_o hk hs) hc f hfn (ref := C) (hts _ hl) (by rw [hT]; exact fun x h => h) hfin (ty := .boolean) (v := vI x) (by rw [ht f hfn, hty]) (by rcases h01 with rfl | rfl <;> rfl) (by rcases h01 with rfl | rfl <;> rfl) (by rw [fvs_len]; exact (List.getElem?_eq_some_iff.mp hf).1) d (fun H1 locs1 hP1 _ hS1 => ?_)
  rw [wl_uo (x := x) hs hf (by rfl)] at hP1
  exact kk H1 locs1 ls hP1 hS1 hL
theorem g_putL (E : Ev p s m args meth c cc nL own A0 D cA ad N Z) {idx ci f k n : Nat} {C : String} {T : u_T} {ty : Nat → FieldType} {fs : List (Nat × Nat)} {z : Nat} {x : Int} (fl : FLk own idx ci C T n ty f) (hfin : (T f).2.2.2 = false) (hty : ty f = .long) (hk : k < N) (hs : sh k = (4, ci, fs)) (hf : fs[f]? = some (1, z)) (d : Dc cc pc (.putfield idx) 3 pc') (kk : G p l e R s m args below meth c nL A0 D cA ad sh N cells slots Q (upS σ k f x) pc' ol st) : G p l e R s m args below meth c nL A0 D cA ad sh N cells slots Q σ pc ol (vL x :: .ref (ad k) :: st) := by
  obtain ⟨⟨hx, hb, hml, hown, hts⟩, hK, hA, hAa, hAq, hlk, hZx⟩ := E
  obtain ⟨⟨hc, hin, ht, hnm⟩, hfn, hT, hl⟩ := fl
  obtain ⟨d, rfl⟩ := d
  intro H locs ls hP hS hL
  refine va_put hx hb hts hin ty ht hnm hown hK hP (wl_D hA hAa) hS k (wl_o hk hs) hc f hfn (ref := C) (hts _ hl) (by rw [hT]; exact fun x h => h) hfin (ty := .long) (v := vL x) (by rw [ht f hfn, hty]) rfl rfl (by rw [fvs_len]; exact (List.getElem?_eq_some_iff.mp hf).1) d (fun H1 locs1 hP1 _ hS1 => ?_)
  rw [wl_uo (x := x) hs hf (by rfl)] at hP1
  exact kk H1 locs1 ls hP1 hS1 hL
theorem g_iald (E : Ev p s m args meth c cc nL own A0 D cA ad N Z) {k n : Nat} {x : Int} (hk : k < N) (hs : sh k = (0, n, [])) (hn : n < 2147483648) (hi : 0 ≤ x ∧ x < (n : Int)) (d : Dc cc pc .iaload 1 pc') (kk : G p l e R s m args below meth c nL A0 D cA ad sh N cells slots Q σ pc' ol (vI (σ k x.toNat) :: st)) : G p l e R s m args below meth c nL A0 D cA ad sh N cells slots Q σ pc ol (vI x :: .ref (ad k) :: st) := by
  obtain ⟨⟨hx, hb, hml, hown, hts⟩, hK, hA, hAa, hAq, hlk, hZx⟩ := E
  obtain ⟨d, rfl⟩ := d
  obtain ⟨h1, h2⟩ := in_of hi hn
  intro H locs ls hP hS hL
  refine va_iald hx hb hK hP k 0 (wl_i hk hs (by decide)) rfl h1 d ?_
  rw [h2]
  exact kk H locs ls hP hS hL
theorem g_bald (E : Ev p s m args meth c cc nL own A0 D cA ad N Z) {k n : Nat} {x : Int} (hk : k < N) (hs : sh k = (2, n, [])) (hn : n < 2147483648) (hi : 0 ≤ x ∧ x < (n : Int)) (d : Dc cc pc .baload 1 pc') (kk : G p l e R s m args below meth c nL A0 D cA ad sh N cells slots Q σ pc' ol (vI (σ k x.toNat) :: st)) : G p l e R s m args below meth c nL A0 D cA ad sh N cells slots Q σ pc ol (vI x :: .ref (ad k) :: st) := by
  obtain ⟨⟨hx, hb, hml, hown, hts⟩, hK, hA, hAa, hAq, hlk, hZx⟩ := E
  obtain ⟨d, rfl⟩ := d
  obtain ⟨h1, h2⟩ := in_of hi hn
  intro H locs ls hP hS hL
  refine va_bald hx hb hK hP k 2 (wl_i hk hs (by decide)) rfl h1 d ?_
  rw [h2]
  exact kk H locs ls hP hS hL
theorem g_zald (E : Ev p s m args meth c cc nL own A0 D cA ad N Z) {k n : Nat} {x : Int} (hk : k < N) (hs : sh k = (3, n, [])) (hn : n < 2147483648) (hi : 0 ≤ x ∧ x < (n : Int)) (d : Dc cc pc .baload 1 pc') (kk : G p l e R s m args below meth c nL A0 D cA ad sh N cells slots Q σ pc' ol (vI (σ k x.toNat) :: st)) : G p l e R s m args below meth c nL A0 D cA ad sh N cells slots Q σ pc ol (vI x :: .ref (ad k) :: st) := by
  obtain ⟨⟨hx, hb, hml, hown, hts⟩, hK, hA, hAa, hAq, hlk, hZx⟩ := E
  obtain ⟨d, rfl⟩ := d
  obtain ⟨h1, h2⟩ := in_of hi hn
  intro H locs ls hP hS hL
  refine va_zald hx hb hK hP k 3 (wl_i hk hs (by decide)) rfl h1 d ?_
  rw [h2]
  exact kk H locs ls hP hS hL
theorem g_lald (E : Ev p s m args meth c cc nL own A0 D cA ad N Z) {k n : Nat} {x : Int} (hk : k < N) (hs : sh k = (1, n, [])) (hn : n < 2147483648) (hi : 0 ≤ x ∧ x < (n : Int)) (d : Dc cc pc .laload 1 pc') (kk : G p l e R s m args below meth c nL A0 D cA ad sh N cells slots Q σ pc' ol (vL (σ k x.toNat) :: st)) : G p l e R s m args below meth c nL A0 D cA ad sh N cells slots Q σ pc ol (vI x :: .ref (ad k) :: st) := by
  obtain ⟨⟨hx, hb, hml, hown, hts⟩, hK, hA, hAa, hAq, hlk, hZx⟩ := E
  obtain ⟨d, rfl⟩ := d
  obtain ⟨h1, h2⟩ := in_of hi hn
  intro H locs ls hP hS hL
  refine va_lald hx hb hK hP k 1 (wl_l hk hs) rfl h1 d ?_
  rw [h2]
  exact kk H locs ls hP hS hL
theorem g_iast (E : Ev p s m args meth c cc nL own A0 D cA ad N Z) {k n : Nat} {x i : Int} (hk : k < N) (hs : sh k = (0, n, [])) (hn : n < 2147483648) (hi : 0 ≤ i ∧ i < (n : Int)) (d : Dc cc pc .iastore 1 pc') (kk : G p l e R s m args below meth c nL A0 D cA ad sh N cells slots Q (upS σ k i.toNat (x)) pc' ol st) : G p l e R s m args below meth c nL A0 D cA ad sh N cells slots Q σ pc ol (vI x :: vI i :: .ref (ad k) :: st) := by
  obtain ⟨⟨hx, hb, hml, hown, hts⟩, hK, hA, hAa, hAq, hlk, hZx⟩ := E
  obtain ⟨d, rfl⟩ := d
  obtain ⟨h1, h2⟩ := in_of hi hn
  intro H locs ls hP hS hL
  refine va_iast hx hb hK hP (wl_D hA hAa) hS k 0 (wl_i hk hs (by decide)) rfl h1 d (fun H1 locs1 hP1 _ hS1 => ?_)
  rw [h2] at hP1
  rw [wl_ui hs (by decide)] at hP1
  exact kk H1 locs1 ls hP1 hS1 hL
theorem g_bast (E : Ev p s m args meth c cc nL own A0 D cA ad N Z) {k n : Nat} {x i : Int} (hk : k < N) (hs : sh k = (2, n, [])) (hn : n < 2147483648) (hi : 0 ≤ i ∧ i < (n : Int)) (d : Dc cc pc .bastore 1 pc') (kk : G p l e R s m args below meth c nL A0 D cA ad sh N cells slots Q (upS σ k i.toNat (b_byte x)) pc' ol st) : G p l e R s m args below meth c nL A0 D cA ad sh N cells slots Q σ pc ol (vI x :: vI i :: .ref (ad k) :: st) := by
  obtain ⟨⟨hx, hb, hml, hown, hts⟩, hK, hA, hAa, hAq, hlk, hZx⟩ := E
  obtain ⟨d, rfl⟩ := d
  obtain ⟨h1, h2⟩ := in_of hi hn
  intro H locs ls hP hS hL
  refine va_bast hx hb hK hP (wl_D hA hAa) hS k 2 (wl_i hk hs (by decide)) rfl h1 d (fun H1 locs1 hP1 _ hS1 => ?_)
  rw [h2] at hP1
  rw [show vp_nar .byte (Int32.ofInt x) = Int32.ofInt (b_byte x) by unfold b_byte; rw [Int32.ofInt_toInt]; rfl] at hP1
  rw [wl_ui hs (by decide)] at hP1
  exact kk H1 locs1 ls hP1 hS1 hL
theorem g_zast (E : Ev p s m args meth c cc nL own A0 D cA ad N Z) {k n : Nat} {x i : Int} (hk : k < N) (hs : sh k = (3, n, [])) (hn : n < 2147483648) (hi : 0 ≤ i ∧ i < (n : Int)) (d : Dc cc pc .bastore 1 pc') (kk : G p l e R s m args below meth c nL A0 D cA ad sh N cells slots Q (upS σ k i.toNat (b_and x 1)) pc' ol st) : G p l e R s m args below meth c nL A0 D cA ad sh N cells slots Q σ pc ol (vI x :: vI i :: .ref (ad k) :: st) := by
  obtain ⟨⟨hx, hb, hml, hown, hts⟩, hK, hA, hAa, hAq, hlk, hZx⟩ := E
  obtain ⟨d, rfl⟩ := d
  obtain ⟨h1, h2⟩ := in_of hi hn
  intro H locs ls hP hS hL
  refine va_zast hx hb hK hP (wl_D hA hAa) hS k 3 (wl_i hk hs (by decide)) rfl h1 d (fun H1 locs1 hP1 _ hS1 => ?_)
  rw [h2] at hP1
  rw [show vp_nar .boolean (Int32.ofInt x) = Int32.ofInt (b_and x 1) by unfold b_and; rw [Int32.ofInt_toInt]; rfl] at hP1
  rw [wl_ui hs (by decide)] at hP1
  exact kk H1 locs1 ls hP1 hS1 hL
theorem g_last (E : Ev p s m args meth c cc nL own A0 D cA ad N Z) {k n : Nat} {x i : Int} (hk : k < N) (hs : sh k = (1, n, [])) (hn : n < 2147483648) (hi : 0 ≤ i ∧ i < (n : Int)) (d : Dc cc pc .lastore 1 pc') (kk : G p l e R s m args below meth c nL A0 D cA ad sh N cells slots Q (upS σ k i.toNat x) pc' ol st) : G p l e R s m args below meth c nL A0 D cA ad sh N cells slots Q σ pc ol (vL x :: vI i :: .ref (ad k) :: st) := by
  obtain ⟨⟨hx, hb, hml, hown, hts⟩, hK, hA, hAa, hAq, hlk, hZx⟩ := E
  obtain ⟨d, rfl⟩ := d
  obtain ⟨h1, h2⟩ := in_of hi hn
  intro H locs ls hP hS hL
  refine va_last hx hb hK hP (wl_D hA hAa) hS k 1 (wl_l hk hs) rfl h1 d (fun H1 locs1 hP1 _ hS1 => ?_)
  rw [h2] at hP1
  rw [wl_ul hs] at hP1
  exact kk H1 locs1 ls hP1 hS1 hL
theorem g_alen (E : Ev p s m args meth c cc nL own A0 D cA ad N Z) {k n t : Nat} (hk : k < N) (hs : sh k = (t, n, [])) (ht : t ≠ 1 ∧ t ≠ 4) (ht3 : t < 4) (d : Dc cc pc .arraylength 1 pc') (kk : G p l e R s m args below meth c nL A0 D cA ad sh N cells slots Q σ pc' ol (vI (n : Int) :: st)) : G p l e R s m args below meth c nL A0 D cA ad sh N cells slots Q σ pc ol (.ref (ad k) :: st) := by
  obtain ⟨⟨hx, hb, hml, hown, hts⟩, hK, hA, hAa, hAq, hlk, hZx⟩ := E
  obtain ⟨d, rfl⟩ := d
  intro H locs ls hP hS hL
  have hty : ∃ fty, (tyA cA)[t]? = some (cA t, fty) := by
    match t, ht3 with
    | 0, _ => exact ⟨_, rfl⟩
    | 1, _ => exact ⟨_, rfl⟩
    | 2, _ => exact ⟨_, rfl⟩
    | 3, _ => exact ⟨_, rfl⟩
  obtain ⟨fty, hty⟩ := hty
  exact va_alen (v := Int32.ofInt (n : Int)) hx hb hK hP k t (wl_i hk hs ht) hty rfl d (kk H locs ls hP hS hL)
theorem g_alenl (E : Ev p s m args meth c cc nL own A0 D cA ad N Z) {k n : Nat} (hk : k < N) (hs : sh k = (1, n, [])) (d : Dc cc pc .arraylength 1 pc') (kk : G p l e R s m args below meth c nL A0 D cA ad sh N cells slots Q σ pc' ol (vI (n : Int) :: st)) : G p l e R s m args below meth c nL A0 D cA ad sh N cells slots Q σ pc ol (.ref (ad k) :: st) := by
  obtain ⟨⟨hx, hb, hml, hown, hts⟩, hK, hA, hAa, hAq, hlk, hZx⟩ := E
  obtain ⟨d, rfl⟩ := d
  intro H locs ls hP hS hL
  exact va_alen (v := Int32.ofInt (n : Int)) hx hb hK hP k 1 (wl_l hk hs) (ty := .long) rfl rfl d (kk H locs ls hP hS hL)
end GM
theorem Met.ofWF {l : Launch} {y : MethodName} {ws ws' : List Cond} {rm : Room} {Pc : Array Value → State → Prop} {Qc : Array Value → State → Outcome → State → Prop} {mc ms : Nat} {free : Addr → Prop} {cc : ByteArray} {maxL : Nat} {ret : Option FieldType}
    (hy : plainFor y = true) (hw : ws = Cond.code y cc maxL ret :: ws')
    (body : ∀ p e s m args below meth c s₁, BodyLoose p l y (headSpec ws rm) cc maxL ret e s m args below meth c s₁ → c.maxLocals = maxL → Pc args s →
      W p l e (headSpec ws rm).room s m args below meth c s.heap [] 0 0 (MQ below Qc args s mc ms free) (entryFrame m args maxL)) : Met l y ws rm Pc Qc mc ms free := by
  refine MetFree.of_bodySF (code := cc) (maxLocals := maxL) (ret := ret) hy ?_ ?_
  · intro args s m h hn
    obtain ⟨meth, c, h1, h2, h3, h4, h5, h6, -, -⟩ := Cond.code_spec hn (atoms_spec (ws := ws) h _ (by rw [hw]; exact List.mem_cons_self))
    exact ⟨meth, c, h1, h2, h3, h4, h5, h6⟩
  · intro p e s m args below meth c s₁ B hml hP _
    have hh0 : s₁.heap = s.heap := by rw [B.state]; rfl
    obtain ⟨t, a1, o, b1, b2, b3⟩ := body p e s m args below meth c s₁ B hml hP s₁ hh0 (Stand.of_body B)
    exact ⟨t, o, a1, b1, b2, ⟨b3.1, b3.2⟩⟩
def rmL (L mc ms : Nat) : Room := { frames := L + 1, cells := mc, slots := ms, locals := 64 * (L + 1) }
def AA (N : Nat) (ad : Nat → Nat) (sz : Nat) : Nat → Prop := fun q => (∃ k, k < N ∧ q = ad k) ∨ sz ≤ q
def postI (sh : Nat → Shp) (N : Nat) (Qp : Int → St → Prop) : Int32 → Int × St → Prop := fun r u => r = Int32.ofInt u.1 ∧ C32 u.1 ∧ Qp u.1 u.2 ∧ CanS sh N u.2
def postL (sh : Nat → Shp) (N : Nat) (Qp : Int → St → Prop) : Int64 → Int × St → Prop := fun r u => r = Int64.ofInt u.1 ∧ C64 u.1 ∧ Qp u.1 u.2 ∧ CanS sh N u.2
def postV (sh : Nat → Shp) (N : Nat) (Qp : Int → St → Prop) : Int × St → Prop := fun u => Qp u.1 u.2 ∧ CanS sh N u.2
def bW (D : va_G) (cA : Nat → ClassId) (ad : Nat → Nat) (sh : Nat → Shp) (N : Nat) : Int × St → State → Prop := fun u t => va_P D classes (wl sh N ad cA u.2) t.heap
def preW (Z : (Nat → Nat) × (Nat → Nat)) (D : va_G) (cA : Nat → ClassId) (ad : Nat → Nat) (sh : Nat → Shp) (N : Nat) (sz : Nat) (σ : St) : State → Prop := fun U => U.heap.size = sz ∧ va_P D classes (wl sh N ad cA σ) U.heap ∧ va_K D classes (tyA cA) U ∧ SX Z (AA N ad sz) U U.heap
def QIc (D : va_G) (cA : Nat → ClassId) (ad : Nat → Nat) (sh : Nat → Shp) (N : Nat) (Qp : Int → St → Prop) (A : Nat → Prop) : Array Value → State → Outcome → State → Prop := va_Qi (postI sh N Qp) (bW D cA ad sh N) A
def QLc (D : va_G) (cA : Nat → ClassId) (ad : Nat → Nat) (sh : Nat → Shp) (N : Nat) (Qp : Int → St → Prop) (A : Nat → Prop) : Array Value → State → Outcome → State → Prop := va_Ql (postL sh N Qp) (bW D cA ad sh N) A
def QVc (D : va_G) (cA : Nat → ClassId) (ad : Nat → Nat) (sh : Nat → Shp) (N : Nat) (Qp : Int → St → Prop) (A : Nat → Prop) : Array Value → State → Outcome → State → Prop := va_Qv (postV sh N Qp) (bW D cA ad sh N) A
theorem pre_blind {D : va_G} {cA : Nat → ClassId} {ad : Nat → Nat} {sh : Nat → Shp} {N sz : Nat} {σ : St} {av : List Value} {Z : (Nat → Nat) × (Nat → Nat)} : FrameBlind (va_Pc av (preW Z D cA ad sh N sz σ)) := fun a U g mk q => by
  obtain ⟨q0, q1, qP, qK, qZ⟩ := q
  exact ⟨q0, q1, qP, va_K.moved (u := U) (U := U.calling g mk a) (Vm.Alike.refl U.vm) qK, qZ.same rfl⟩
theorem AA_sub {N : Nat} {ad : Nat → Nat} {sz : Nat} {A0 : Nat → Prop} {h0 : Nat} (h1 : ∀ i, i < N → A0 (ad i)) (h2 : ∀ q, h0 ≤ q → A0 q) (h3 : h0 ≤ sz) : ∀ q, AA N ad sz q → A0 q := by
  rintro q (⟨k, hk, rfl⟩ | h)
  · exact h1 k hk
  · exact h2 q (Nat.le_trans h3 h)
theorem rm_ok {L L' mc ms mc' ms' n : Nat} (h : L' < L) (hn : n ≤ 45) : (rmL L' mc' ms').frames + 1 ≤ (rmL L mc ms).frames ∧ 8 + (n + 11) + (rmL L' mc' ms').locals ≤ (rmL L mc ms).locals := by
  unfold rmL
  constructor
  · show L' + 1 + 1 ≤ L + 1; omega
  · show 8 + (n + 11) + 64 * (L' + 1) ≤ 64 * (L + 1); omega
theorem good_code {y : MethodName} {code : ByteArray} {nL : Nat} {ret : Option FieldType} (h : Cond.code y code nL ret ∈ gtbl) : GoodIn gtbl (Cond.code y code nL ret :: gtbl) := by
  intro w hw
  rcases List.mem_cons.mp hw with rfl | hw
  · exact ⟨h, good_tbl _ h⟩
  · exact ⟨hw, good_tbl _ hw⟩
def KtI (Z : (Nat → Nat) × (Nat → Nat)) (l : Launch) (D : va_G) (cA : Nat → ClassId) (ad : Nat → Nat) (sh : Nat → Shp) (N : Nat) (y : MethodName) (code : ByteArray) (nL : Nat) (ret : Option FieldType) (L : Nat) (av : List Value) (σ : St) (Qp : Int → St → Prop) : Prop :=
  ∀ sz, Met l y (Cond.code y code nL ret :: gtbl) (rmL L 0 0) (va_Pc av (preW Z D cA ad sh N sz σ)) (QIc D cA ad sh N Qp (AA N ad sz)) 0 0 (AA N ad sz)
theorem KtI.of {Z : (Nat → Nat) × (Nat → Nat)} {l : Launch} {D : va_G} {cA : Nat → ClassId} {ad : Nat → Nat} {sh : Nat → Shp} {N : Nat} {y : MethodName} {code : ByteArray} {nL : Nat} {ret : Option FieldType} {L n : Nat} {av : List Value} {σ : St} {Qp : Int → St → Prop} (hm : MYk y code nL ret n) (hA : AdOk N ad) (ol : List (Option Value)) (hl : (lg_sl av).length ≤ nL) (hol : lvL ol 0 = lv_args 0 av)
    (body : ∀ (p : Program) (e : Env) (s : State) (m : MethodId) (args : Array Value) (below : List Frame) (meth : Method) (c : Code) (A0 : Nat → Prop), Ev p s m args meth c code nL y.cls A0 D cA ad N Z → meth.sig.returnType = ret → G p l e (rmL L 0 0) s m args below meth c nL A0 D cA ad sh N 0 0 (MQ below (QIc D cA ad sh N Qp A0) args s 0 0 A0) σ 0 ol []) : KtI Z l D cA ad sh N y code nL ret L av σ Qp := by
  intro sz
  refine Met.ofWF (cc := code) (maxL := nL) (ret := ret) hm.2.2.2.2 rfl ?_
  intro p e s m args below meth c s₁ B hml hv
  obtain ⟨rfl, hsz, hP, hK, hZ⟩ := hv
  subst hsz
  have hts := atoms_spec (ws := Cond.code y code nL ret :: gtbl) B.pre
  have hown : s.vm.findClass y.cls = some m.cls := findClass_of_methodNamed B.named
  have hl0 := lv_entry av (n := nL) hl
  rw [lg_entry_eq]
  rw [← hol] at hl0
  exact body p e s m _ below meth c (AA N ad s.heap.size) ⟨⟨B.exec, B.bytes, hml, hown, fun w hw => hts w (List.mem_cons_of_mem _ hw)⟩, hK, hA, fun i hi => Or.inl ⟨i, hi, rfl⟩, fun q hq => Or.inr hq, B.notSynchronized, hZ⟩ B.returns s.heap [] _ hP va_S.rf hl0
def KtL (Z : (Nat → Nat) × (Nat → Nat)) (l : Launch) (D : va_G) (cA : Nat → ClassId) (ad : Nat → Nat) (sh : Nat → Shp) (N : Nat) (y : MethodName) (code : ByteArray) (nL : Nat) (ret : Option FieldType) (L : Nat) (av : List Value) (σ : St) (Qp : Int → St → Prop) : Prop :=
  ∀ sz, Met l y (Cond.code y code nL ret :: gtbl) (rmL L 0 0) (va_Pc av (preW Z D cA ad sh N sz σ)) (QLc D cA ad sh N Qp (AA N ad sz)) 0 0 (AA N ad sz)
theorem KtL.of {Z : (Nat → Nat) × (Nat → Nat)} {l : Launch} {D : va_G} {cA : Nat → ClassId} {ad : Nat → Nat} {sh : Nat → Shp} {N : Nat} {y : MethodName} {code : ByteArray} {nL : Nat} {ret : Option FieldType} {L n : Nat} {av : List Value} {σ : St} {Qp : Int → St → Prop} (hm : MYk y code nL ret n) (hA : AdOk N ad) (ol : List (Option Value)) (hl : (lg_sl av).length ≤ nL) (hol : lvL ol 0 = lv_args 0 av)
    (body : ∀ (p : Program) (e : Env) (s : State) (m : MethodId) (args : Array Value) (below : List Frame) (meth : Method) (c : Code) (A0 : Nat → Prop), Ev p s m args meth c code nL y.cls A0 D cA ad N Z → meth.sig.returnType = ret → G p l e (rmL L 0 0) s m args below meth c nL A0 D cA ad sh N 0 0 (MQ below (QLc D cA ad sh N Qp A0) args s 0 0 A0) σ 0 ol []) : KtL Z l D cA ad sh N y code nL ret L av σ Qp := by
  intro sz
  refine Met.ofWF (cc := code) (maxL := nL) (ret := ret) hm.2.2.2.2 rfl ?_
  intro p e s m args below meth c s₁ B hml hv
  obtain ⟨rfl, hsz, hP, hK, hZ⟩ := hv
  subst hsz
  have hts := atoms_spec (ws := Cond.code y code nL ret :: gtbl) B.pre
  have hown : s.vm.findClass y.cls = some m.cls := findClass_of_methodNamed B.named
  have hl0 := lv_entry av (n := nL) hl
  rw [lg_entry_eq]
  rw [← hol] at hl0
  exact body p e s m _ below meth c (AA N ad s.heap.size) ⟨⟨B.exec, B.bytes, hml, hown, fun w hw => hts w (List.mem_cons_of_mem _ hw)⟩, hK, hA, fun i hi => Or.inl ⟨i, hi, rfl⟩, fun q hq => Or.inr hq, B.notSynchronized, hZ⟩ B.returns s.heap [] _ hP va_S.rf hl0
def KtV (Z : (Nat → Nat) × (Nat → Nat)) (l : Launch) (D : va_G) (cA : Nat → ClassId) (ad : Nat → Nat) (sh : Nat → Shp) (N : Nat) (y : MethodName) (code : ByteArray) (nL : Nat) (ret : Option FieldType) (L : Nat) (av : List Value) (σ : St) (Qp : Int → St → Prop) : Prop :=
  ∀ sz, Met l y (Cond.code y code nL ret :: gtbl) (rmL L 0 0) (va_Pc av (preW Z D cA ad sh N sz σ)) (QVc D cA ad sh N Qp (AA N ad sz)) 0 0 (AA N ad sz)
theorem KtV.of {Z : (Nat → Nat) × (Nat → Nat)} {l : Launch} {D : va_G} {cA : Nat → ClassId} {ad : Nat → Nat} {sh : Nat → Shp} {N : Nat} {y : MethodName} {code : ByteArray} {nL : Nat} {ret : Option FieldType} {L n : Nat} {av : List Value} {σ : St} {Qp : Int → St → Prop} (hm : MYk y code nL ret n) (hA : AdOk N ad) (ol : List (Option Value)) (hl : (lg_sl av).length ≤ nL) (hol : lvL ol 0 = lv_args 0 av)
    (body : ∀ (p : Program) (e : Env) (s : State) (m : MethodId) (args : Array Value) (below : List Frame) (meth : Method) (c : Code) (A0 : Nat → Prop), Ev p s m args meth c code nL y.cls A0 D cA ad N Z → meth.sig.returnType = ret → G p l e (rmL L 0 0) s m args below meth c nL A0 D cA ad sh N 0 0 (MQ below (QVc D cA ad sh N Qp A0) args s 0 0 A0) σ 0 ol []) : KtV Z l D cA ad sh N y code nL ret L av σ Qp := by
  intro sz
  refine Met.ofWF (cc := code) (maxL := nL) (ret := ret) hm.2.2.2.2 rfl ?_
  intro p e s m args below meth c s₁ B hml hv
  obtain ⟨rfl, hsz, hP, hK, hZ⟩ := hv
  subst hsz
  have hts := atoms_spec (ws := Cond.code y code nL ret :: gtbl) B.pre
  have hown : s.vm.findClass y.cls = some m.cls := findClass_of_methodNamed B.named
  have hl0 := lv_entry av (n := nL) hl
  rw [lg_entry_eq]
  rw [← hol] at hl0
  exact body p e s m _ below meth c (AA N ad s.heap.size) ⟨⟨B.exec, B.bytes, hml, hown, fun w hw => hts w (List.mem_cons_of_mem _ hw)⟩, hK, hA, fun i hi => Or.inl ⟨i, hi, rfl⟩, fun q hq => Or.inr hq, B.notSynchronized, hZ⟩ B.returns s.heap [] _ hP va_S.rf hl0
section GC
variable {p : Program} {l : Launch} {e : Env} {R : Room} {s : State} {m : MethodId} {args : Array Value} {below : List Frame} {meth : Method} {c : Code} {nL : Nat} {A0 : Nat → Prop} {D : va_G} {cA : Nat → ClassId} {ad : Nat → Nat} {sh : Nat → Shp} {N cells slots : Nat} {Q : State → Prop} {cc : ByteArray} {own : String} {Z : (Nat → Nat) × (Nat → Nat)}
variable {σ : St} {pc pc' tgt : Nat} {ol : List (Option Value)} {st stk : List Value} {Qp : Int → St → Prop}
theorem g_iret (E : Ev p s m args meth c cc nL own A0 D cA ad N Z) {x : Int} (hr : meth.sig.returnType = some .int) (cx : C32 x) (hq : Qp x σ) (hσ : CanS sh N σ) (d : Dc cc pc .ireturn 1 pc') : G p l e R s m args below meth c nL A0 D cA ad sh N cells slots (MQ below (QIc D cA ad sh N Qp A0) args s cells slots A0) σ pc ol [vI x] := by
  obtain ⟨⟨hx, hb, hml, hown, hts⟩, hK, hA, hAa, hAq, hlk, hZx⟩ := E
  obtain ⟨d, rfl⟩ := d
  intro H locs ls hP hS hL
  exact W.iret (Qc := QIc D cA ad sh N Qp A0) hx hb hr (fun t ht hW => ⟨⟨_, (x, σ), rfl, ⟨rfl, cx, hq, hσ⟩, by show va_P _ _ _ t.heap; rw [ht]; exact hP⟩, hS.F ht⟩) hS.2.2 d hlk
theorem g_zret (E : Ev p s m args meth c cc nL own A0 D cA ad N Z) {x : Int} (hr : meth.sig.returnType = some .boolean) (h01 : x = 0 ∨ x = 1) (hq : Qp x σ) (hσ : CanS sh N σ) (d : Dc cc pc .ireturn 1 pc') : G p l e R s m args below meth c nL A0 D cA ad sh N cells slots (MQ below (QIc D cA ad sh N Qp A0) args s cells slots A0) σ pc ol [vI x] := by
  obtain ⟨⟨hx, hb, hml, hown, hts⟩, hK, hA, hAa, hAq, hlk, hZx⟩ := E
  obtain ⟨d, rfl⟩ := d
  intro H locs ls hP hS hL
  have cx : C32 x := by unfold C32; omega
  have hn : narrow .boolean (.int (Int32.ofInt x)) = .int (Int32.ofInt x) := by rcases h01 with rfl | rfl <;> rfl
  exact W.zret (Qc := QIc D cA ad sh N Qp A0) (v := Int32.ofInt x) hx hb hr hn (fun t ht hW => ⟨⟨_, (x, σ), rfl, ⟨rfl, cx, hq, hσ⟩, by show va_P _ _ _ t.heap; rw [ht]; exact hP⟩, hS.F ht⟩) hS.2.2 d hlk
theorem g_lret (E : Ev p s m args meth c cc nL own A0 D cA ad N Z) {x : Int} (hr : meth.sig.returnType = some .long) (cx : C64 x) (hq : Qp x σ) (hσ : CanS sh N σ) (d : Dc cc pc .lreturn 1 pc') : G p l e R s m args below meth c nL A0 D cA ad sh N cells slots (MQ below (QLc D cA ad sh N Qp A0) args s cells slots A0) σ pc ol [vL x] := by
  obtain ⟨⟨hx, hb, hml, hown, hts⟩, hK, hA, hAa, hAq, hlk, hZx⟩ := E
  obtain ⟨d, rfl⟩ := d
  intro H locs ls hP hS hL
  exact W.lret (Qc := QLc D cA ad sh N Qp A0) hx hb hr (fun t ht hW => ⟨⟨_, (x, σ), rfl, ⟨rfl, cx, hq, hσ⟩, by show va_P _ _ _ t.heap; rw [ht]; exact hP⟩, hS.F ht⟩) hS.2.2 d hlk
theorem g_vret (E : Ev p s m args meth c cc nL own A0 D cA ad N Z) (hr : meth.sig.returnType = none) (hq : Qp 0 σ) (hσ : CanS sh N σ) (d : Dc cc pc .return_ 1 pc') : G p l e R s m args below meth c nL A0 D cA ad sh N cells slots (MQ below (QVc D cA ad sh N Qp A0) args s cells slots A0) σ pc ol [] := by
  obtain ⟨⟨hx, hb, hml, hown, hts⟩, hK, hA, hAa, hAq, hlk, hZx⟩ := E
  obtain ⟨d, rfl⟩ := d
  intro H locs ls hP hS hL
  exact W.vret (Qc := QVc D cA ad sh N Qp A0) hx hb hr (fun t ht hW => ⟨⟨(0, σ), rfl, ⟨hq, hσ⟩, by show va_P _ _ _ t.heap; rw [ht]; exact hP⟩, hS.F ht⟩) hS.2.2 d hlk
theorem g_callvI (E : Ev p s m args meth c cc nL own A0 D cA ad N Z) {y : MethodName} {code : ByteArray} {nL' n L' idx k ci nf : Nat} {ret : Option FieldType} {As : List Value} {T : u_T} {fs : List (Nat × Nat)} (hm : MYk y code nL' ret n) (hi : Cond.instanceMethod y ∈ gtbl) (hsel : Cond.selects y.cls y y ∈ gtbl) (hl : Cond.methodLink own idx y ∈ gtbl) (hR : (rmL L' 0 0).frames + 1 ≤ R.frames ∧ 8 + (nL' + 11) + (rmL L' 0 0).locals ≤ R.locals) (hcs : cells ≤ R.cells ∧ slots ≤ R.slots) (hk : k < N) (hs : sh k = (4, ci, fs)) (hc : classes[ci]? = some (y.cls, T, nf)) (kt : KtI Z l D cA ad sh N y code nL' ret L' (.ref (ad k) :: As) σ Qp) (hn : As.length = n) (hst : stk = As.reverse ++ .ref (ad k) :: st) (hcat : (st.map fun v => v.category).sum ≤ 8) (d : Dc cc pc (.invokevirtual idx) 3 pc') (kk : ∀ (r : Int) (σ1 : St), C32 r → CanS sh N σ1 → Qp r σ1 → G p l e R s m args below meth c nL A0 D cA ad sh N cells slots Q σ1 pc' ol (vI r :: st)) : G p l e R s m args below meth c nL A0 D cA ad sh N cells slots Q σ pc ol stk := by
  obtain ⟨⟨hx, hb, hml, hown, hts⟩, hK, hA, hAa, hAq, hlk, hZx⟩ := E
  obtain ⟨d, rfl⟩ := d
  intro H locs ls hP hS hL
  have hz : s.heap.size ≤ H.size := hS.1
  refine va_calli (S := Int × St) (va_runV (As := As) (rest := st) (n := n) (C := y.cls) ⟨hx, hb, hml, hown, hts⟩ (kt H.size) ⟨callB_of n hts (good_code hm.1) rfl rfl rfl (hts _ hm.2.1) (hts _ hl) ⟨hm.2.2.1.1, hm.2.2.1.2, hm.2.2.2.1⟩ hR, hts _ hi, hts _ hsel⟩ ⟨pre_blind, va_recv hK hP (q := (y.cls, T, nf)) hc (wl_o hk hs), fun U hU hW => ⟨rfl, by rw [hU], by rw [hU]; exact hP, va_K.moved hW.alike hK, by rw [hU]; exact ((hZx.kept hS.2.1).narrow (AA_sub hAa hAq hz)).warm hW⟩⟩ rfl hn hL.1 hst (lv_room hcat) d hcs) hS (fun q _ h => AA_sub hAa hAq hz q h) (AA_sub hAa hAq hz) (fun r u t H1 locs1 ht hvm hw hB hz1 hk1 hS1 => ?_)
  obtain ⟨r1, σ1⟩ := u
  obtain ⟨rfl, cr, hq, hσ1⟩ := hw
  exact kk r1 σ1 cr hσ1 hq H1 locs1 ls (by rw [← ht]; exact hB) hS1 hL
theorem g_callsI (E : Ev p s m args meth c cc nL own A0 D cA ad N Z) {y : MethodName} {code : ByteArray} {nL' n L' idx : Nat} {ret : Option FieldType} {As : List Value} (hm : MYk y code nL' ret n) (hi : Cond.static y ∈ gtbl) (hl : Cond.methodLink own idx y ∈ gtbl) (hR : (rmL L' 0 0).frames + 1 ≤ R.frames ∧ 8 + (nL' + 11) + (rmL L' 0 0).locals ≤ R.locals) (hcs : cells ≤ R.cells ∧ slots ≤ R.slots) (kt : KtI Z l D cA ad sh N y code nL' ret L' As σ Qp) (hn : As.length = n) (hst : stk = As.reverse ++ st) (hcat : (st.map fun v => v.category).sum ≤ 8) (d : Dc cc pc (.invokestatic idx) 3 pc') (kk : ∀ (r : Int) (σ1 : St), C32 r → CanS sh N σ1 → Qp r σ1 → G p l e R s m args below meth c nL A0 D cA ad sh N cells slots Q σ1 pc' ol (vI r :: st)) : G p l e R s m args below meth c nL A0 D cA ad sh N cells slots Q σ pc ol stk := by
  obtain ⟨⟨hx, hb, hml, hown, hts⟩, hK, hA, hAa, hAq, hlk, hZx⟩ := E
  obtain ⟨d, rfl⟩ := d
  intro H locs ls hP hS hL
  have hz : s.heap.size ≤ H.size := hS.1
  refine va_calli (S := Int × St) (va_runS (As := As) (rest := st) (n := n) ⟨hx, hb, hml, hown, hts⟩ (kt H.size) ⟨callB_of n hts (good_code hm.1) rfl rfl rfl (hts _ hm.2.1) (hts _ hl) ⟨hm.2.2.1.1, hm.2.2.1.2, hm.2.2.2.1⟩ hR, hts _ hi⟩ ⟨pre_blind, fun U hU hW => ⟨rfl, by rw [hU], by rw [hU]; exact hP, va_K.moved hW.alike hK, by rw [hU]; exact ((hZx.kept hS.2.1).narrow (AA_sub hAa hAq hz)).warm hW⟩⟩ rfl hn hL.1 hst (lv_room hcat) d hcs) hS (fun q _ h => AA_sub hAa hAq hz q h) (AA_sub hAa hAq hz) (fun r u t H1 locs1 ht hvm hw hB hz1 hk1 hS1 => ?_)
  obtain ⟨r1, σ1⟩ := u
  obtain ⟨rfl, cr, hq, hσ1⟩ := hw
  exact kk r1 σ1 cr hσ1 hq H1 locs1 ls (by rw [← ht]; exact hB) hS1 hL
theorem g_callvL (E : Ev p s m args meth c cc nL own A0 D cA ad N Z) {y : MethodName} {code : ByteArray} {nL' n L' idx k ci nf : Nat} {ret : Option FieldType} {As : List Value} {T : u_T} {fs : List (Nat × Nat)} (hm : MYk y code nL' ret n) (hi : Cond.instanceMethod y ∈ gtbl) (hsel : Cond.selects y.cls y y ∈ gtbl) (hl : Cond.methodLink own idx y ∈ gtbl) (hR : (rmL L' 0 0).frames + 1 ≤ R.frames ∧ 8 + (nL' + 11) + (rmL L' 0 0).locals ≤ R.locals) (hcs : cells ≤ R.cells ∧ slots ≤ R.slots) (hk : k < N) (hs : sh k = (4, ci, fs)) (hc : classes[ci]? = some (y.cls, T, nf)) (kt : KtL Z l D cA ad sh N y code nL' ret L' (.ref (ad k) :: As) σ Qp) (hn : As.length = n) (hst : stk = As.reverse ++ .ref (ad k) :: st) (hcat : (st.map fun v => v.category).sum ≤ 8) (d : Dc cc pc (.invokevirtual idx) 3 pc') (kk : ∀ (r : Int) (σ1 : St), C64 r → CanS sh N σ1 → Qp r σ1 → G p l e R s m args below meth c nL A0 D cA ad sh N cells slots Q σ1 pc' ol (vL r :: st)) : G p l e R s m args below meth c nL A0 D cA ad sh N cells slots Q σ pc ol stk := by
  obtain ⟨⟨hx, hb, hml, hown, hts⟩, hK, hA, hAa, hAq, hlk, hZx⟩ := E
  obtain ⟨d, rfl⟩ := d
  intro H locs ls hP hS hL
  have hz : s.heap.size ≤ H.size := hS.1
  refine va_calll (S := Int × St) (va_runV (As := As) (rest := st) (n := n) (C := y.cls) ⟨hx, hb, hml, hown, hts⟩ (kt H.size) ⟨callB_of n hts (good_code hm.1) rfl rfl rfl (hts _ hm.2.1) (hts _ hl) ⟨hm.2.2.1.1, hm.2.2.1.2, hm.2.2.2.1⟩ hR, hts _ hi, hts _ hsel⟩ ⟨pre_blind, va_recv hK hP (q := (y.cls, T, nf)) hc (wl_o hk hs), fun U hU hW => ⟨rfl, by rw [hU], by rw [hU]; exact hP, va_K.moved hW.alike hK, by rw [hU]; exact ((hZx.kept hS.2.1).narrow (AA_sub hAa hAq hz)).warm hW⟩⟩ rfl hn hL.1 hst (lv_room hcat) d hcs) hS (fun q _ h => AA_sub hAa hAq hz q h) (AA_sub hAa hAq hz) (fun r u t H1 locs1 ht hvm hw hB hz1 hk1 hS1 => ?_)
  obtain ⟨r1, σ1⟩ := u
  obtain ⟨rfl, cr, hq, hσ1⟩ := hw
  exact kk r1 σ1 cr hσ1 hq H1 locs1 ls (by rw [← ht]; exact hB) hS1 hL
theorem g_callsL (E : Ev p s m args meth c cc nL own A0 D cA ad N Z) {y : MethodName} {code : ByteArray} {nL' n L' idx : Nat} {ret : Option FieldType} {As : List Value} (hm : MYk y code nL' ret n) (hi : Cond.static y ∈ gtbl) (hl : Cond.methodLink own idx y ∈ gtbl) (hR : (rmL L' 0 0).frames + 1 ≤ R.frames ∧ 8 + (nL' + 11) + (rmL L' 0 0).locals ≤ R.locals) (hcs : cells ≤ R.cells ∧ slots ≤ R.slots) (kt : KtL Z l D cA ad sh N y code nL' ret L' As σ Qp) (hn : As.length = n) (hst : stk = As.reverse ++ st) (hcat : (st.map fun v => v.category).sum ≤ 8) (d : Dc cc pc (.invokestatic idx) 3 pc') (kk : ∀ (r : Int) (σ1 : St), C64 r → CanS sh N σ1 → Qp r σ1 → G p l e R s m args below meth c nL A0 D cA ad sh N cells slots Q σ1 pc' ol (vL r :: st)) : G p l e R s m args below meth c nL A0 D cA ad sh N cells slots Q σ pc ol stk := by
  obtain ⟨⟨hx, hb, hml, hown, hts⟩, hK, hA, hAa, hAq, hlk, hZx⟩ := E
  obtain ⟨d, rfl⟩ := d
  intro H locs ls hP hS hL
  have hz : s.heap.size ≤ H.size := hS.1
  refine va_calll (S := Int × St) (va_runS (As := As) (rest := st) (n := n) ⟨hx, hb, hml, hown, hts⟩ (kt H.size) ⟨callB_of n hts (good_code hm.1) rfl rfl rfl (hts _ hm.2.1) (hts _ hl) ⟨hm.2.2.1.1, hm.2.2.1.2, hm.2.2.2.1⟩ hR, hts _ hi⟩ ⟨pre_blind, fun U hU hW => ⟨rfl, by rw [hU], by rw [hU]; exact hP, va_K.moved hW.alike hK, by rw [hU]; exact ((hZx.kept hS.2.1).narrow (AA_sub hAa hAq hz)).warm hW⟩⟩ rfl hn hL.1 hst (lv_room hcat) d hcs) hS (fun q _ h => AA_sub hAa hAq hz q h) (AA_sub hAa hAq hz) (fun r u t H1 locs1 ht hvm hw hB hz1 hk1 hS1 => ?_)
  obtain ⟨r1, σ1⟩ := u
  obtain ⟨rfl, cr, hq, hσ1⟩ := hw
  exact kk r1 σ1 cr hσ1 hq H1 locs1 ls (by rw [← ht]; exact hB) hS1 hL
theorem g_callvV (E : Ev p s m args meth c cc nL own A0 D cA ad N Z) {y : MethodName} {code : ByteArray} {nL' n L' idx k ci nf : Nat} {ret : Option FieldType} {As : List Value} {T : u_T} {fs : List (Nat × Nat)} (hm : MYk y code nL' ret n) (hi : Cond.instanceMethod y ∈ gtbl) (hsel : Cond.selects y.cls y y ∈ gtbl) (hl : Cond.methodLink own idx y ∈ gtbl) (hR : (rmL L' 0 0).frames + 1 ≤ R.frames ∧ 8 + (nL' + 11) + (rmL L' 0 0).locals ≤ R.locals) (hcs : cells ≤ R.cells ∧ slots ≤ R.slots) (hk : k < N) (hs : sh k = (4, ci, fs)) (hc : classes[ci]? = some (y.cls, T, nf)) (kt : KtV Z l D cA ad sh N y code nL' ret L' (.ref (ad k) :: As) σ Qp) (hn : As.length = n) (hst : stk = As.reverse ++ .ref (ad k) :: st) (hcat : (st.map fun v => v.category).sum ≤ 8) (d : Dc cc pc (.invokevirtual idx) 3 pc') (kk : ∀ (σ1 : St) (r : Int), CanS sh N σ1 → Qp r σ1 → G p l e R s m args below meth c nL A0 D cA ad sh N cells slots Q σ1 pc' ol st) : G p l e R s m args below meth c nL A0 D cA ad sh N cells slots Q σ pc ol stk := by
  obtain ⟨⟨hx, hb, hml, hown, hts⟩, hK, hA, hAa, hAq, hlk, hZx⟩ := E
  obtain ⟨d, rfl⟩ := d
  intro H locs ls hP hS hL
  have hz : s.heap.size ≤ H.size := hS.1
  refine va_callv (S := Int × St) (va_runV (As := As) (rest := st) (n := n) (C := y.cls) ⟨hx, hb, hml, hown, hts⟩ (kt H.size) ⟨callB_of n hts (good_code hm.1) rfl rfl rfl (hts _ hm.2.1) (hts _ hl) ⟨hm.2.2.1.1, hm.2.2.1.2, hm.2.2.2.1⟩ hR, hts _ hi, hts _ hsel⟩ ⟨pre_blind, va_recv hK hP (q := (y.cls, T, nf)) hc (wl_o hk hs), fun U hU hW => ⟨rfl, by rw [hU], by rw [hU]; exact hP, va_K.moved hW.alike hK, by rw [hU]; exact ((hZx.kept hS.2.1).narrow (AA_sub hAa hAq hz)).warm hW⟩⟩ rfl hn hL.1 hst (lv_room hcat) d hcs) hS (fun q _ h => AA_sub hAa hAq hz q h) (AA_sub hAa hAq hz) (fun u t H1 locs1 ht hvm hw hB hz1 hk1 hS1 => ?_)
  obtain ⟨r1, σ1⟩ := u
  obtain ⟨hq, hσ1⟩ := hw
  exact kk σ1 r1 hσ1 hq H1 locs1 ls (by rw [← ht]; exact hB) hS1 hL
theorem g_callsV (E : Ev p s m args meth c cc nL own A0 D cA ad N Z) {y : MethodName} {code : ByteArray} {nL' n L' idx : Nat} {ret : Option FieldType} {As : List Value} (hm : MYk y code nL' ret n) (hi : Cond.static y ∈ gtbl) (hl : Cond.methodLink own idx y ∈ gtbl) (hR : (rmL L' 0 0).frames + 1 ≤ R.frames ∧ 8 + (nL' + 11) + (rmL L' 0 0).locals ≤ R.locals) (hcs : cells ≤ R.cells ∧ slots ≤ R.slots) (kt : KtV Z l D cA ad sh N y code nL' ret L' As σ Qp) (hn : As.length = n) (hst : stk = As.reverse ++ st) (hcat : (st.map fun v => v.category).sum ≤ 8) (d : Dc cc pc (.invokestatic idx) 3 pc') (kk : ∀ (σ1 : St) (r : Int), CanS sh N σ1 → Qp r σ1 → G p l e R s m args below meth c nL A0 D cA ad sh N cells slots Q σ1 pc' ol st) : G p l e R s m args below meth c nL A0 D cA ad sh N cells slots Q σ pc ol stk := by
  obtain ⟨⟨hx, hb, hml, hown, hts⟩, hK, hA, hAa, hAq, hlk, hZx⟩ := E
  obtain ⟨d, rfl⟩ := d
  intro H locs ls hP hS hL
  have hz : s.heap.size ≤ H.size := hS.1
  refine va_callv (S := Int × St) (va_runS (As := As) (rest := st) (n := n) ⟨hx, hb, hml, hown, hts⟩ (kt H.size) ⟨callB_of n hts (good_code hm.1) rfl rfl rfl (hts _ hm.2.1) (hts _ hl) ⟨hm.2.2.1.1, hm.2.2.1.2, hm.2.2.2.1⟩ hR, hts _ hi⟩ ⟨pre_blind, fun U hU hW => ⟨rfl, by rw [hU], by rw [hU]; exact hP, va_K.moved hW.alike hK, by rw [hU]; exact ((hZx.kept hS.2.1).narrow (AA_sub hAa hAq hz)).warm hW⟩⟩ rfl hn hL.1 hst (lv_room hcat) d hcs) hS (fun q _ h => AA_sub hAa hAq hz q h) (AA_sub hAa hAq hz) (fun u t H1 locs1 ht hvm hw hB hz1 hk1 hS1 => ?_)
  obtain ⟨r1, σ1⟩ := u
  obtain ⟨hq, hσ1⟩ := hw
  exact kk σ1 r1 hσ1 hq H1 locs1 ls (by rw [← ht]; exact hB) hS1 hL
end GC
