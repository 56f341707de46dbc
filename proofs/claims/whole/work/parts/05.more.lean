def bigN : Nat := 1000000000000000000000000000000
theorem c32_max {x y : Int} (h1 : C32 x) (h2 : C32 y) : C32 (max x y) := by rw [Int.max_def]; split <;> assumption
theorem c32_min {x y : Int} (h1 : C32 x) (h2 : C32 y) : C32 (min x y) := by rw [Int.min_def]; split <;> assumption
theorem c64_min {x y : Int} (h1 : C64 x) (h2 : C64 y) : C64 (min x y) := by rw [Int.min_def]; split <;> assumption
theorem rm_1 (L : Nat) : 1 ≤ (rmL L 0 0).frames ∧ 60 ≤ (rmL L 0 0).locals := by
  unfold rmL
  constructor
  · show 1 ≤ L + 1; omega
  · show 60 ≤ 64 * (L + 1); omega
def copyS (σ : St) (k1 k2 sp dp n : Nat) : St := fun a b => if a = k2 ∧ dp ≤ b ∧ b < dp + n then σ k1 (sp + (b - dp)) else σ a b
theorem copyS_ne {σ : St} {k1 k2 sp dp n : Nat} : ∀ a, a ≠ k2 → copyS σ k1 k2 sp dp n a = σ a := by
  intro a ha
  funext b
  simp [copyS, ha]
theorem can_copy {sh : Nat → Shp} {N : Nat} {σ : St} (h : CanS sh N σ) {k1 k2 n1 n2 sp dp n : Nat} (hk1 : k1 < N) (hs1 : sh k1 = (0, n1, [])) (hk2 : k2 < N) (hs2 : sh k2 = (0, n2, [])) : CanS sh N (copyS σ k1 k2 sp dp n) := by
  intro a ha
  by_cases hak : a = k2
  · subst hak
    unfold canK
    rw [hs2, if_neg (show ¬ (0 : Nat) = 1 by decide), if_neg (show ¬ (0 : Nat) = 4 by decide)]
    intro b
    unfold copyS
    split
    · exact h.i32 0 hk1 hs1 (by decide) _
    · exact h.i32 0 hk2 hs2 (by decide) _
  · rw [copyS_ne a hak]; exact h a ha
theorem wcM : Cond.static Lib.Math.max.name ∈ gtbl ∧ Cond.static Lib.Math.min.name ∈ gtbl ∧ Cond.static Lib.MathLoose.min_long.x ∈ gtbl ∧ Cond.initialized "java/lang/Math" ∈ gtbl ∧ Cond.code Lib.Math.max.name Lib.Math.max.code 2 (some .int) ∈ gtbl ∧ Cond.code Lib.Math.min.name Lib.Math.min.code 2 (some .int) ∈ gtbl ∧ Cond.code Lib.MathLoose.min_long.x Lib.MathLoose.min_long.code 4 (some .long) ∈ gtbl := ⟨tg (tb_4 (List.mem_of_getElem? (i := 187) rfl)) rfl, tg (tb_3 (List.mem_of_getElem? (i := 184) rfl)) rfl, tg (tb_9 (List.mem_of_getElem? (i := 8) rfl)) rfl, tg (tb_1 (List.mem_of_getElem? (i := 14) rfl)) rfl, tg (tb_4 (List.mem_of_getElem? (i := 188) rfl)) rfl, tg (tb_3 (List.mem_of_getElem? (i := 185) rfl)) rfl, tg (tb_9 (List.mem_of_getElem? (i := 9) rfl)) rfl⟩
theorem wcA : Cond.native arraycopyName ∈ gtbl ∧ Cond.static arraycopyName ∈ gtbl ∧ Cond.initialized "java/lang/System" ∈ gtbl := ⟨tg (tb_5 (List.mem_of_getElem? (i := 194) rfl)) rfl, tg (tb_5 (List.mem_of_getElem? (i := 193) rfl)) rfl, tg (tb_1 (List.mem_of_getElem? (i := 21) rfl)) rfl⟩
section GX
variable {p : Program} {l : Launch} {e : Env} {R : Room} {s : State} {m : MethodId} {args : Array Value} {below : List Frame} {meth : Method} {c : Code} {nL : Nat} {A0 : Nat → Prop} {D : va_G} {cA : Nat → ClassId} {ad : Nat → Nat} {sh : Nat → Shp} {N cells slots : Nat} {Q : State → Prop} {cc : ByteArray} {own : String} {Z : (Nat → Nat) × (Nat → Nat)}
variable {σ : St} {pc pc' tgt : Nat} {ol : List (Option Value)} {st : List Value}
theorem g_mmax (E : Ev p s m args meth c cc nL own A0 D cA ad N Z) {idx : Nat} {x y : Int} (hl : Cond.methodLink own idx Lib.Math.max.name ∈ gtbl) (cx : C32 x) (cy : C32 y) (hcat : (st.map fun v => v.category).sum ≤ 8) (hR : 1 ≤ R.frames ∧ 60 ≤ R.locals) (hcs : cells ≤ R.cells ∧ slots ≤ R.slots) (d : Dc cc pc (.invokestatic idx) 3 pc') (k : G p l e R s m args below meth c nL A0 D cA ad sh N cells slots Q σ pc' ol (vI (max x y) :: st)) : G p l e R s m args below meth c nL A0 D cA ad sh N cells slots Q σ pc ol (vI y :: vI x :: st) := by
  obtain ⟨⟨hx, hb, hml, hown, hts⟩, hK, hA, hAa, hAq, hlk, hZx⟩ := E
  obtain ⟨d, rfl⟩ := d
  intro H locs ls hP hS hL
  refine va_mmax hx hb (hml.trans hL.1.symm) hown (hts _ hl) (hts _ wcM.1) (hts _ wcM.2.2.2.1) (hts _ wcM.2.2.2.2.1) hR.1 (by omega) hcs.1 hcs.2 d ?_
  have e : (if Int32.ofInt x < Int32.ofInt y then Int32.ofInt y else Int32.ofInt x) = Int32.ofInt (max x y) := by
    simp only [i_lt cx cy, Int.max_def]
    split <;> split <;> first | rfl | (exfalso; omega) | (congr 1; omega)
  rw [e]
  exact k H locs ls hP hS hL
theorem g_mmin (E : Ev p s m args meth c cc nL own A0 D cA ad N Z) {idx : Nat} {x y : Int} (hl : Cond.methodLink own idx Lib.Math.min.name ∈ gtbl) (cx : C32 x) (cy : C32 y) (hcat : (st.map fun v => v.category).sum ≤ 8) (hR : 1 ≤ R.frames ∧ 60 ≤ R.locals) (hcs : cells ≤ R.cells ∧ slots ≤ R.slots) (d : Dc cc pc (.invokestatic idx) 3 pc') (k : G p l e R s m args below meth c nL A0 D cA ad sh N cells slots Q σ pc' ol (vI (min x y) :: st)) : G p l e R s m args below meth c nL A0 D cA ad sh N cells slots Q σ pc ol (vI y :: vI x :: st) := by
  obtain ⟨⟨hx, hb, hml, hown, hts⟩, hK, hA, hAa, hAq, hlk, hZx⟩ := E
  obtain ⟨d, rfl⟩ := d
  intro H locs ls hP hS hL
  refine va_mmin hx hb (hml.trans hL.1.symm) hown (hts _ hl) (hts _ wcM.2.1) (hts _ wcM.2.2.2.1) (hts _ wcM.2.2.2.2.2.1) hR.1 (by omega) hcs.1 hcs.2 d ?_
  have e : (if Int32.ofInt y < Int32.ofInt x then Int32.ofInt y else Int32.ofInt x) = Int32.ofInt (min x y) := by
    simp only [i_lt cy cx, Int.min_def]
    split <;> split <;> first | rfl | (exfalso; omega) | (congr 1; omega)
  rw [e]
  exact k H locs ls hP hS hL
theorem g_mminl (E : Ev p s m args meth c cc nL own A0 D cA ad N Z) {idx : Nat} {x y : Int} (hl : Cond.methodLink own idx Lib.MathLoose.min_long.x ∈ gtbl) (cx : C64 x) (cy : C64 y) (hcat : (st.map fun v => v.category).sum ≤ 8) (hR : 1 ≤ R.frames ∧ 60 ≤ R.locals) (hcs : cells ≤ R.cells ∧ slots ≤ R.slots) (d : Dc cc pc (.invokestatic idx) 3 pc') (k : G p l e R s m args below meth c nL A0 D cA ad sh N cells slots Q σ pc' ol (vL (min x y) :: st)) : G p l e R s m args below meth c nL A0 D cA ad sh N cells slots Q σ pc ol (vL y :: vL x :: st) := by
  obtain ⟨⟨hx, hb, hml, hown, hts⟩, hK, hA, hAa, hAq, hlk, hZx⟩ := E
  obtain ⟨d, rfl⟩ := d
  intro H locs ls hP hS hL
  refine va_mmin_long hx hb (hml.trans hL.1.symm) hown (hts _ hl) (hts _ wcM.2.2.1) (hts _ wcM.2.2.2.1) (hts _ wcM.2.2.2.2.2.2) hR.1 (by omega) hcs.1 hcs.2 d ?_
  have e : (if Int64.ofInt y < Int64.ofInt x then Int64.ofInt y else Int64.ofInt x) = Int64.ofInt (min x y) := by
    simp only [l_lt cy cx, Int.min_def]
    split <;> split <;> first | rfl | (exfalso; omega) | (congr 1; omega)
  rw [e]
  exact k H locs ls hP hS hL
theorem g_acopy (E : Ev p s m args meth c cc nL own A0 D cA ad N Z) {idx k1 k2 n1 n2 : Nat} {sp dp n : Int} (hl : Cond.methodLink own idx arraycopyName ∈ gtbl) (hk1 : k1 < N) (hs1 : sh k1 = (0, n1, [])) (hk2 : k2 < N) (hs2 : sh k2 = (0, n2, [])) (hn1 : n1 < 2147483648) (hn2 : n2 < 2147483648) (h1 : 0 ≤ sp) (h2 : 0 ≤ dp) (h3 : 0 ≤ n) (h4 : sp + n ≤ (n1 : Int)) (h5 : dp + n ≤ (n2 : Int)) (hcat : (st.map fun v => v.category).sum ≤ 8) (hR : 1 ≤ R.frames ∧ 60 ≤ R.locals) (d : Dc cc pc (.invokestatic idx) 3 pc') (k : G p l e R s m args below meth c nL A0 D cA ad sh N cells slots Q (copyS σ k1 k2 sp.toNat dp.toNat n.toNat) pc' ol st) : G p l e R s m args below meth c nL A0 D cA ad sh N cells slots Q σ pc ol (vI n :: vI dp :: .ref (ad k2) :: vI sp :: .ref (ad k1) :: st) := by
  obtain ⟨⟨hx, hb, hml, hown, hts⟩, hK, hA, hAa, hAq, hlk, hZx⟩ := E
  obtain ⟨d, rfl⟩ := d
  intro H locs ls hP hS hL
  have cl : ∀ z : Int, 0 ≤ z → z < 2147483648 → (¬ Int32.ofInt z < 0) ∧ (Int32.ofInt z).toNatClampNeg = z.toNat := by
    intro z hz hz2
    have hc : C32 z := by unfold C32; omega
    refine ⟨?_, ?_⟩
    · rw [show (0 : Int32) = Int32.ofInt 0 from rfl, i_lt hc c32_0]; omega
    · show (Int32.ofInt z).toInt.toNat = z.toNat
      rw [i_toInt hc]
  obtain ⟨a1, b1⟩ := cl sp h1 (by omega)
  obtain ⟨a2, b2⟩ := cl dp h2 (by omega)
  obtain ⟨a3, b3⟩ := cl n h3 (by omega)
  refine va_copyi hx hb (hml.trans hL.1.symm) hown (hts _ hl) (hts _ wcA.1) (hts _ wcA.2.1) (hts _ wcA.2.2) hK hP (wl_D hA hAa) hS k1 k2 0 0 (wl_i hk1 hs1 (by decide)) (wl_i hk2 hs2 (by decide)) rfl rfl rfl a1 a2 a3 (by rw [b1, b3]; omega) (by rw [b2, b3]; omega) (fun _ _ => rfl) hR.1 ?_ d (fun H1 locs1 hP1 _ hS1 => ?_)
  · have : nativeFrameWords "java/lang/System" "arraycopy" 5 ≤ 40 := by decide +kernel
    omega
  · rw [b1, b2, b3] at hP1
    have e : (wl sh N ad cA σ).set k2 (ad k2, .inl (cA 0, n2, .inl (va_cpy (fun j => Int32.ofInt (σ k1 j)) (fun j => Int32.ofInt (σ k2 j)) sp.toNat dp.toNat n.toNat))) = wl sh N ad cA (copyS σ k1 k2 sp.toNat dp.toNat n.toNat) := by
      rw [← wl_set (σ := σ) (σ' := copyS σ k1 k2 sp.toNat dp.toNat n.toNat) (k := k2) copyS_ne]
      congr 1
      unfold mkE
      rw [hs2, if_neg (show ¬ (0 : Nat) = 1 by decide), if_neg (show ¬ (0 : Nat) = 4 by decide)]
      have : (va_cpy (fun j => Int32.ofInt (σ k1 j)) (fun j => Int32.ofInt (σ k2 j)) sp.toNat dp.toNat n.toNat) = (fun j => Int32.ofInt (copyS σ k1 k2 sp.toNat dp.toNat n.toNat k2 j)) := by
        funext b
        unfold va_cpy copyS
        by_cases hb : dp.toNat ≤ b ∧ b < dp.toNat + n.toNat
        · rw [if_pos hb, if_pos ⟨rfl, hb⟩]
        · rw [if_neg hb, if_neg (fun q => hb q.2)]
      rw [this]
    rw [e] at hP1
    exact k H1 locs1 ls hP1 hS1 hL
end GX
