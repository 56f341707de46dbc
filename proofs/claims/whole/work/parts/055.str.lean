theorem sy_J0_coder_7d493 : MYk yJ0_coder_7d493 cJ0_coder_7d493 1 (some .byte) 0 := ⟨tg (tb_3 (List.mem_of_getElem? (i := 198) rfl)) rfl, tg (tb_1 (List.mem_of_getElem? (i := 15) rfl)) rfl, ⟨by decide, by decide⟩, by decide +kernel, plainFor_of_name (by decide +kernel)⟩
theorem si_J0_coder_7d493 : Cond.instanceMethod yJ0_coder_7d493 ∈ gtbl := tg (tb_3 (List.mem_of_getElem? (i := 196) rfl)) rfl
theorem sl_J0_coder_7d493 : Cond.selects yJ0_coder_7d493.cls yJ0_coder_7d493 yJ0_coder_7d493 ∈ gtbl := tg (tb_3 (List.mem_of_getElem? (i := 197) rfl)) rfl
theorem dJ0_coder_7d493_0 : Dc cJ0_coder_7d493 0 (.getstatic 38) 3 3 := ⟨by decide +kernel, rfl⟩
theorem djJ0_coder_7d493_3 : Dj cJ0_coder_7d493 3 (.ifCond .eq 10) 3 6 10 13 := ⟨by decide +kernel, rfl, by decide⟩
theorem dJ0_coder_7d493_6 : Dc cJ0_coder_7d493 6 (.aload_n 0) 1 7 := ⟨by decide +kernel, rfl⟩
theorem dJ0_coder_7d493_7 : Dc cJ0_coder_7d493 7 (.getfield 15) 3 10 := ⟨by decide +kernel, rfl⟩
theorem djJ0_coder_7d493_10 : Dj cJ0_coder_7d493 10 (.goto 4) 3 13 4 14 := ⟨by decide +kernel, rfl, by decide⟩
theorem dJ0_coder_7d493_13 : Dc cJ0_coder_7d493 13 (.iconst 1) 1 14 := ⟨by decide +kernel, rfl⟩
theorem dJ0_coder_7d493_14 : Dc cJ0_coder_7d493 14 (.ireturn) 1 15 := ⟨by decide +kernel, rfl⟩
theorem sy_J0_isLatin1_aae02 : MYk yJ0_isLatin1_aae02 cJ0_isLatin1_aae02 1 (some .boolean) 0 := ⟨tg (tb_3 (List.mem_of_getElem? (i := 208) rfl)) rfl, tg (tb_1 (List.mem_of_getElem? (i := 15) rfl)) rfl, ⟨by decide, by decide⟩, by decide +kernel, plainFor_of_name (by decide +kernel)⟩
theorem si_J0_isLatin1_aae02 : Cond.instanceMethod yJ0_isLatin1_aae02 ∈ gtbl := tg (tb_3 (List.mem_of_getElem? (i := 206) rfl)) rfl
theorem sl_J0_isLatin1_aae02 : Cond.selects yJ0_isLatin1_aae02.cls yJ0_isLatin1_aae02 yJ0_isLatin1_aae02 ∈ gtbl := tg (tb_3 (List.mem_of_getElem? (i := 207) rfl)) rfl
theorem dJ0_isLatin1_aae02_0 : Dc cJ0_isLatin1_aae02 0 (.getstatic 38) 3 3 := ⟨by decide +kernel, rfl⟩
theorem djJ0_isLatin1_aae02_3 : Dj cJ0_isLatin1_aae02 3 (.ifCond .eq 14) 3 6 14 17 := ⟨by decide +kernel, rfl, by decide⟩
theorem dJ0_isLatin1_aae02_6 : Dc cJ0_isLatin1_aae02 6 (.aload_n 0) 1 7 := ⟨by decide +kernel, rfl⟩
theorem dJ0_isLatin1_aae02_7 : Dc cJ0_isLatin1_aae02 7 (.getfield 15) 3 10 := ⟨by decide +kernel, rfl⟩
theorem djJ0_isLatin1_aae02_10 : Dj cJ0_isLatin1_aae02 10 (.ifCond .ne 7) 3 13 7 17 := ⟨by decide +kernel, rfl, by decide⟩
theorem dJ0_isLatin1_aae02_13 : Dc cJ0_isLatin1_aae02 13 (.iconst 1) 1 14 := ⟨by decide +kernel, rfl⟩
theorem djJ0_isLatin1_aae02_14 : Dj cJ0_isLatin1_aae02 14 (.goto 4) 3 17 4 18 := ⟨by decide +kernel, rfl, by decide⟩
theorem dJ0_isLatin1_aae02_17 : Dc cJ0_isLatin1_aae02 17 (.iconst 0) 1 18 := ⟨by decide +kernel, rfl⟩
theorem dJ0_isLatin1_aae02_18 : Dc cJ0_isLatin1_aae02 18 (.ireturn) 1 19 := ⟨by decide +kernel, rfl⟩
theorem sy_J3_checkIndex_8e157 : MYk yJ3_checkIndex_8e157 cJ3_checkIndex_8e157 3 (some .int) 3 := ⟨tg (tb_3 (List.mem_of_getElem? (i := 219) rfl)) rfl, tg (tb_1 (List.mem_of_getElem? (i := 17) rfl)) rfl, ⟨by decide, by decide⟩, by decide +kernel, plainFor_of_name (by decide +kernel)⟩
theorem ss_J3_checkIndex_8e157 : Cond.static yJ3_checkIndex_8e157 ∈ gtbl := tg (tb_3 (List.mem_of_getElem? (i := 218) rfl)) rfl
theorem dJ3_checkIndex_8e157_0 : Dc cJ3_checkIndex_8e157 0 (.iload_n 0) 1 1 := ⟨by decide +kernel, rfl⟩
theorem djJ3_checkIndex_8e157_1 : Dj cJ3_checkIndex_8e157 1 (.ifCond .lt 8) 3 4 8 9 := ⟨by decide +kernel, rfl, by decide⟩
theorem dJ3_checkIndex_8e157_4 : Dc cJ3_checkIndex_8e157 4 (.iload_n 0) 1 5 := ⟨by decide +kernel, rfl⟩
theorem dJ3_checkIndex_8e157_5 : Dc cJ3_checkIndex_8e157 5 (.iload_n 1) 1 6 := ⟨by decide +kernel, rfl⟩
theorem djJ3_checkIndex_8e157_6 : Dj cJ3_checkIndex_8e157 6 (.if_icmp .lt 10) 3 9 10 16 := ⟨by decide +kernel, rfl, by decide⟩
theorem dJ3_checkIndex_8e157_9 : Dc cJ3_checkIndex_8e157 9 (.aload_n 2) 1 10 := ⟨by decide +kernel, rfl⟩
theorem dJ3_checkIndex_8e157_10 : Dc cJ3_checkIndex_8e157 10 (.iload_n 0) 1 11 := ⟨by decide +kernel, rfl⟩
theorem dJ3_checkIndex_8e157_11 : Dc cJ3_checkIndex_8e157 11 (.iload_n 1) 1 12 := ⟨by decide +kernel, rfl⟩
theorem dJ3_checkIndex_8e157_12 : Dc cJ3_checkIndex_8e157 12 (.invokestatic 95) 3 15 := ⟨by decide +kernel, rfl⟩
theorem dJ3_checkIndex_8e157_15 : Dc cJ3_checkIndex_8e157 15 (.athrow) 1 16 := ⟨by decide +kernel, rfl⟩
theorem dJ3_checkIndex_8e157_16 : Dc cJ3_checkIndex_8e157 16 (.iload_n 0) 1 17 := ⟨by decide +kernel, rfl⟩
theorem dJ3_checkIndex_8e157_17 : Dc cJ3_checkIndex_8e157 17 (.ireturn) 1 18 := ⟨by decide +kernel, rfl⟩
theorem sy_J0_checkIndex_df160 : MYk yJ0_checkIndex_df160 cJ0_checkIndex_df160 2 none 2 := ⟨tg (tb_3 (List.mem_of_getElem? (i := 214) rfl)) rfl, tg (tb_1 (List.mem_of_getElem? (i := 15) rfl)) rfl, ⟨by decide, by decide⟩, by decide +kernel, plainFor_of_name (by decide +kernel)⟩
theorem ss_J0_checkIndex_df160 : Cond.static yJ0_checkIndex_df160 ∈ gtbl := tg (tb_3 (List.mem_of_getElem? (i := 213) rfl)) rfl
theorem dJ0_checkIndex_df160_0 : Dc cJ0_checkIndex_df160 0 (.iload_n 0) 1 1 := ⟨by decide +kernel, rfl⟩
theorem dJ0_checkIndex_df160_1 : Dc cJ0_checkIndex_df160 1 (.iload_n 1) 1 2 := ⟨by decide +kernel, rfl⟩
theorem dJ0_checkIndex_df160_2 : Dc cJ0_checkIndex_df160 2 (.getstatic 1053) 3 5 := ⟨by decide +kernel, rfl⟩
theorem dJ0_checkIndex_df160_5 : Dc cJ0_checkIndex_df160 5 (.invokestatic 1059) 3 8 := ⟨by decide +kernel, rfl⟩
theorem dJ0_checkIndex_df160_8 : Dc cJ0_checkIndex_df160 8 (.pop) 1 9 := ⟨by decide +kernel, rfl⟩
theorem dJ0_checkIndex_df160_9 : Dc cJ0_checkIndex_df160 9 (.return_) 1 10 := ⟨by decide +kernel, rfl⟩
theorem sy_J1_charAt_3b067 : MYk yJ1_charAt_3b067 cJ1_charAt_3b067 2 (some .char) 2 := ⟨tg (tb_3 (List.mem_of_getElem? (i := 211) rfl)) rfl, tg (tb_1 (List.mem_of_getElem? (i := 16) rfl)) rfl, ⟨by decide, by decide⟩, by decide +kernel, plainFor_of_name (by decide +kernel)⟩
theorem ss_J1_charAt_3b067 : Cond.static yJ1_charAt_3b067 ∈ gtbl := tg (tb_3 (List.mem_of_getElem? (i := 210) rfl)) rfl
theorem dJ1_charAt_3b067_0 : Dc cJ1_charAt_3b067 0 (.iload_n 1) 1 1 := ⟨by decide +kernel, rfl⟩
theorem dJ1_charAt_3b067_1 : Dc cJ1_charAt_3b067 1 (.aload_n 0) 1 2 := ⟨by decide +kernel, rfl⟩
theorem dJ1_charAt_3b067_2 : Dc cJ1_charAt_3b067 2 (.arraylength) 1 3 := ⟨by decide +kernel, rfl⟩
theorem dJ1_charAt_3b067_3 : Dc cJ1_charAt_3b067 3 (.invokestatic 9) 3 6 := ⟨by decide +kernel, rfl⟩
theorem dJ1_charAt_3b067_6 : Dc cJ1_charAt_3b067 6 (.aload_n 0) 1 7 := ⟨by decide +kernel, rfl⟩
theorem dJ1_charAt_3b067_7 : Dc cJ1_charAt_3b067 7 (.iload_n 1) 1 8 := ⟨by decide +kernel, rfl⟩
theorem dJ1_charAt_3b067_8 : Dc cJ1_charAt_3b067 8 (.baload) 1 9 := ⟨by decide +kernel, rfl⟩
theorem dJ1_charAt_3b067_9 : Dc cJ1_charAt_3b067 9 (.sipush 255) 3 12 := ⟨by decide +kernel, rfl⟩
theorem dJ1_charAt_3b067_12 : Dc cJ1_charAt_3b067 12 (.iand) 1 13 := ⟨by decide +kernel, rfl⟩
theorem dJ1_charAt_3b067_13 : Dc cJ1_charAt_3b067 13 (.i2c) 1 14 := ⟨by decide +kernel, rfl⟩
theorem dJ1_charAt_3b067_14 : Dc cJ1_charAt_3b067 14 (.ireturn) 1 15 := ⟨by decide +kernel, rfl⟩
theorem sy_J0_charAt_5068e : MYk yJ0_charAt_5068e cJ0_charAt_5068e 2 (some .char) 1 := ⟨tg (tb_3 (List.mem_of_getElem? (i := 204) rfl)) rfl, tg (tb_1 (List.mem_of_getElem? (i := 15) rfl)) rfl, ⟨by decide, by decide⟩, by decide +kernel, plainFor_of_name (by decide +kernel)⟩
theorem si_J0_charAt_5068e : Cond.instanceMethod yJ0_charAt_5068e ∈ gtbl := tg (tb_3 (List.mem_of_getElem? (i := 202) rfl)) rfl
theorem sl_J0_charAt_5068e : Cond.selects yJ0_charAt_5068e.cls yJ0_charAt_5068e yJ0_charAt_5068e ∈ gtbl := tg (tb_3 (List.mem_of_getElem? (i := 203) rfl)) rfl
theorem dJ0_charAt_5068e_0 : Dc cJ0_charAt_5068e 0 (.aload_n 0) 1 1 := ⟨by decide +kernel, rfl⟩
theorem dJ0_charAt_5068e_1 : Dc cJ0_charAt_5068e 1 (.invokevirtual 492) 3 4 := ⟨by decide +kernel, rfl⟩
theorem djJ0_charAt_5068e_4 : Dj cJ0_charAt_5068e 4 (.ifCond .eq 12) 3 7 12 16 := ⟨by decide +kernel, rfl, by decide⟩
theorem dJ0_charAt_5068e_7 : Dc cJ0_charAt_5068e 7 (.aload_n 0) 1 8 := ⟨by decide +kernel, rfl⟩
theorem dJ0_charAt_5068e_8 : Dc cJ0_charAt_5068e 8 (.getfield 9) 3 11 := ⟨by decide +kernel, rfl⟩
theorem dJ0_charAt_5068e_11 : Dc cJ0_charAt_5068e 11 (.iload_n 1) 1 12 := ⟨by decide +kernel, rfl⟩
theorem dJ0_charAt_5068e_12 : Dc cJ0_charAt_5068e 12 (.invokestatic 495) 3 15 := ⟨by decide +kernel, rfl⟩
theorem dJ0_charAt_5068e_15 : Dc cJ0_charAt_5068e 15 (.ireturn) 1 16 := ⟨by decide +kernel, rfl⟩
theorem dJ0_charAt_5068e_16 : Dc cJ0_charAt_5068e 16 (.aload_n 0) 1 17 := ⟨by decide +kernel, rfl⟩
theorem dJ0_charAt_5068e_17 : Dc cJ0_charAt_5068e 17 (.getfield 9) 3 20 := ⟨by decide +kernel, rfl⟩
theorem dJ0_charAt_5068e_20 : Dc cJ0_charAt_5068e 20 (.iload_n 1) 1 21 := ⟨by decide +kernel, rfl⟩
theorem dJ0_charAt_5068e_21 : Dc cJ0_charAt_5068e 21 (.invokestatic 498) 3 24 := ⟨by decide +kernel, rfl⟩
theorem dJ0_charAt_5068e_24 : Dc cJ0_charAt_5068e 24 (.ireturn) 1 25 := ⟨by decide +kernel, rfl⟩
theorem sy_J0_length_8abf5 : MYk yJ0_length_8abf5 cJ0_length_8abf5 1 (some .int) 0 := ⟨tg (tb_3 (List.mem_of_getElem? (i := 194) rfl)) rfl, tg (tb_1 (List.mem_of_getElem? (i := 15) rfl)) rfl, ⟨by decide, by decide⟩, by decide +kernel, plainFor_of_name (by decide +kernel)⟩
theorem si_J0_length_8abf5 : Cond.instanceMethod yJ0_length_8abf5 ∈ gtbl := tg (tb_3 (List.mem_of_getElem? (i := 192) rfl)) rfl
theorem sl_J0_length_8abf5 : Cond.selects yJ0_length_8abf5.cls yJ0_length_8abf5 yJ0_length_8abf5 ∈ gtbl := tg (tb_3 (List.mem_of_getElem? (i := 193) rfl)) rfl
theorem dJ0_length_8abf5_0 : Dc cJ0_length_8abf5 0 (.aload_n 0) 1 1 := ⟨by decide +kernel, rfl⟩
theorem dJ0_length_8abf5_1 : Dc cJ0_length_8abf5 1 (.getfield 9) 3 4 := ⟨by decide +kernel, rfl⟩
theorem dJ0_length_8abf5_4 : Dc cJ0_length_8abf5 4 (.arraylength) 1 5 := ⟨by decide +kernel, rfl⟩
theorem dJ0_length_8abf5_5 : Dc cJ0_length_8abf5 5 (.aload_n 0) 1 6 := ⟨by decide +kernel, rfl⟩
theorem dJ0_length_8abf5_6 : Dc cJ0_length_8abf5 6 (.invokevirtual 335) 3 9 := ⟨by decide +kernel, rfl⟩
theorem dJ0_length_8abf5_9 : Dc cJ0_length_8abf5 9 (.ishr) 1 10 := ⟨by decide +kernel, rfl⟩
theorem dJ0_length_8abf5_10 : Dc cJ0_length_8abf5 10 (.ireturn) 1 11 := ⟨by decide +kernel, rfl⟩
theorem sk_RJ0_335 : Cond.methodLink RJ0 335 yJ0_coder_7d493 ∈ gtbl := tg (tb_3 (List.mem_of_getElem? (i := 195) rfl)) rfl
theorem sk_RJ0_1059 : Cond.methodLink RJ0 1059 yJ3_checkIndex_8e157 ∈ gtbl := tg (tb_3 (List.mem_of_getElem? (i := 217) rfl)) rfl
theorem sk_RJ1_9 : Cond.methodLink RJ1 9 yJ0_checkIndex_df160 ∈ gtbl := tg (tb_3 (List.mem_of_getElem? (i := 212) rfl)) rfl
theorem sk_RJ0_492 : Cond.methodLink RJ0 492 yJ0_isLatin1_aae02 ∈ gtbl := tg (tb_3 (List.mem_of_getElem? (i := 205) rfl)) rfl
theorem sk_RJ0_495 : Cond.methodLink RJ0 495 yJ1_charAt_3b067 ∈ gtbl := tg (tb_3 (List.mem_of_getElem? (i := 209) rfl)) rfl
theorem sf_RJ0_38 : Cond.fieldLink RJ0 38 "java/lang/String" "COMPACT_STRINGS" "Z" ∈ gtbl := tg (tb_3 (List.mem_of_getElem? (i := 199) rfl)) rfl
theorem sf_RJ0_15 : Cond.fieldLink RJ0 15 "java/lang/String" "coder" "B" ∈ gtbl := tg (tb_10 (List.mem_of_getElem? (i := 97) rfl)) rfl
theorem sf_RJ0_9 : Cond.fieldLink RJ0 9 "java/lang/String" "value" "[B" ∈ gtbl := tg (tb_10 (List.mem_of_getElem? (i := 96) rfl)) rfl
theorem sf_RJ0_1053 : Cond.fieldLink RJ0 1053 "jdk/internal/util/Preconditions" "SIOOBE_FORMATTER" "Ljava/util/function/BiFunction;" ∈ gtbl := tg (tb_3 (List.mem_of_getElem? (i := 215) rfl)) rfl
theorem str_ok : ∀ i, i < 16 → ((strO i).2.2.2.length < 2147483648 ∧ ∀ b ∈ (strO i).2.2.2, 0 ≤ b ∧ b ≤ 127) := by decide +kernel
theorem str_get {i : Nat} (hi : i < 16) (j : Nat) : 0 ≤ (strO i).2.2.2.getD j 0 ∧ (strO i).2.2.2.getD j 0 ≤ 127 := by
  by_cases hj : j < (strO i).2.2.2.length
  · refine (str_ok i hi).2 _ ?_
    rw [List.getD_eq_getElem?_getD, List.getElem?_eq_getElem hj]
    exact List.getElem_mem hj
  · rw [List.getD_eq_getElem?_getD, List.getElem?_eq_none (by omega)]
    simp
theorem c32_str (i : Nat) (hi : i < 16) (j : Nat) : C32 ((strO i).2.2.2.getD j 0) := by
  have := str_get hi j
  unfold C32; omega
theorem rm_s (L : Nat) (h : 4 < L) : (rmL 4 0 0).frames + 1 ≤ (rmL L 0 0).frames ∧ 8 + (2 + 11) + (rmL 4 0 0).locals ≤ (rmL L 0 0).locals := rm_ok h (by decide)
section GS
variable {p : Program} {l : Launch} {e : Env} {R : Room} {s : State} {m : MethodId} {args : Array Value} {below : List Frame} {meth : Method} {c : Code} {nL : Nat} {A0 : Nat → Prop} {D : va_G} {cA : Nat → ClassId} {ad : Nat → Nat} {sh : Nat → Shp} {N cells slots : Nat} {Q : State → Prop} {cc : ByteArray} {own : String} {Z : (Nat → Nat) × (Nat → Nat)}
variable {σ : St} {pc pc' tgt : Nat} {ol : List (Option Value)} {st stk : List Value} {Qp : Int → St → Prop}
theorem g_ldcS (E : Ev p s m args meth c cc nL own A0 D cA ad N Z) {i idx : Nat} (hi : i < 16) (ho : (strO i).1 = own ∧ (strO i).2.1 = idx) (d : Dc cc pc (.ldc idx) 2 pc') (k : G p l e R s m args below meth c nL A0 D cA ad sh N cells slots Q σ pc' ol (.ref (Z.1 i) :: st)) : G p l e R s m args below meth c nL A0 D cA ad sh N cells slots Q σ pc ol st := by
  obtain ⟨⟨hx, hb, hml, hown, hts⟩, hK, hA, hAa, hAq, hlk, hZx⟩ := E
  obtain ⟨d, rfl⟩ := d
  obtain ⟨ho1, ho2⟩ := ho
  intro H locs ls hP hS hL
  have hR := (hZx.1 i hi).1
  rw [ho1, ho2] at hR
  exact va_ldcS hx hb hown hR d (k H locs ls hP hS hL)
theorem g_sval (E : Ev p s m args meth c cc nL own A0 D cA ad N Z) {i : Nat} (hi : i < 16) (hw : own = RJ0) (d : Dc cc pc (.getfield 9) 3 pc') (k : G p l e R s m args below meth c nL A0 D cA ad sh N cells slots Q σ pc' ol (.ref (Z.2 i) :: st)) : G p l e R s m args below meth c nL A0 D cA ad sh N cells slots Q σ pc ol (.ref (Z.1 i) :: st) := by
  obtain ⟨⟨hx, hb, hml, hown, hts⟩, hK, hA, hAa, hAq, hlk, hZx⟩ := E
  obtain ⟨d, rfl⟩ := d
  subst hw
  intro H locs ls hP hS hL
  exact vk_getf hx hb (hZx.1 i hi).2.2.2.1 hS hown (hts _ sf_RJ0_9) (fun x h => h) d (k H locs ls hP hS hL)
theorem g_scod (E : Ev p s m args meth c cc nL own A0 D cA ad N Z) {i : Nat} (hi : i < 16) (hw : own = RJ0) (d : Dc cc pc (.getfield 15) 3 pc') (k : G p l e R s m args below meth c nL A0 D cA ad sh N cells slots Q σ pc' ol (vI 0 :: st)) : G p l e R s m args below meth c nL A0 D cA ad sh N cells slots Q σ pc ol (.ref (Z.1 i) :: st) := by
  obtain ⟨⟨hx, hb, hml, hown, hts⟩, hK, hA, hAa, hAq, hlk, hZx⟩ := E
  obtain ⟨d, rfl⟩ := d
  subst hw
  intro H locs ls hP hS hL
  exact vk_getf hx hb (hZx.1 i hi).2.2.1 hS hown (hts _ sf_RJ0_15) (fun x h => h) d (k H locs ls hP hS hL)
theorem g_scomp (E : Ev p s m args meth c cc nL own A0 D cA ad N Z) (hw : own = RJ0) (d : Dc cc pc (.getstatic 38) 3 pc') (k : G p l e R s m args below meth c nL A0 D cA ad sh N cells slots Q σ pc' ol (vI 1 :: st)) : G p l e R s m args below meth c nL A0 D cA ad sh N cells slots Q σ pc ol st := by
  obtain ⟨⟨hx, hb, hml, hown, hts⟩, hK, hA, hAa, hAq, hlk, hZx⟩ := E
  obtain ⟨d, rfl⟩ := d
  subst hw
  intro H locs ls hP hS hL
  exact va_gets hx hb hZx.2.1 hS hown (hts _ sf_RJ0_38) (fun x h => h) d (k H locs ls hP hS hL)
theorem g_ssio (E : Ev p s m args meth c cc nL own A0 D cA ad N Z) (hw : own = RJ0) (d : Dc cc pc (.getstatic 1053) 3 pc') (k : ∀ v : Value, v.category = 1 → G p l e R s m args below meth c nL A0 D cA ad sh N cells slots Q σ pc' ol (v :: st)) : G p l e R s m args below meth c nL A0 D cA ad sh N cells slots Q σ pc ol st := by
  obtain ⟨⟨hx, hb, hml, hown, hts⟩, hK, hA, hAa, hAq, hlk, hZx⟩ := E
  obtain ⟨d, rfl⟩ := d
  subst hw
  intro H locs ls hP hS hL
  rcases hZx.2.2 with hz | ⟨t, hz⟩
  · exact va_gets hx hb hz hS hown (hts _ sf_RJ0_1053) (fun x h => h) d (k _ rfl H locs ls hP hS hL)
  · exact va_gets hx hb hz hS hown (hts _ sf_RJ0_1053) (fun x h => h) d (k _ rfl H locs ls hP hS hL)
theorem g_salen (E : Ev p s m args meth c cc nL own A0 D cA ad N Z) {i n : Nat} (hi : i < 16) (hn : (strO i).2.2.2.length = n) (d : Dc cc pc .arraylength 1 pc') (k : G p l e R s m args below meth c nL A0 D cA ad sh N cells slots Q σ pc' ol (vI (n : Int) :: st)) : G p l e R s m args below meth c nL A0 D cA ad sh N cells slots Q σ pc ol (.ref (Z.2 i) :: st) := by
  obtain ⟨⟨hx, hb, hml, hown, hts⟩, hK, hA, hAa, hAq, hlk, hZx⟩ := E
  obtain ⟨d, rfl⟩ := d
  intro H locs ls hP hS hL
  obtain ⟨cell, h1, h2, h3, h4, h5, h6, h7⟩ := (hZx.1 i hi).2.2.2.2.kept hS.2.1
  exact W.alen hx hb h1 h2 (n := Int32.ofInt (n : Int)) (by rw [h5, hn]; rfl) rfl rfl d (k H locs ls hP hS hL)
theorem g_sbald (E : Ev p s m args meth c cc nL own A0 D cA ad N Z) {i n : Nat} {x : Int} (hi : i < 16) (hn : (strO i).2.2.2.length = n) (hx0 : 0 ≤ x ∧ x < (n : Int)) (d : Dc cc pc .baload 1 pc') (k : G p l e R s m args below meth c nL A0 D cA ad sh N cells slots Q σ pc' ol (vI ((strO i).2.2.2.getD x.toNat 0) :: st)) : G p l e R s m args below meth c nL A0 D cA ad sh N cells slots Q σ pc ol (vI x :: .ref (Z.2 i) :: st) := by
  obtain ⟨⟨hx, hb, hml, hown, hts⟩, hK, hA, hAa, hAq, hlk, hZx⟩ := E
  obtain ⟨d, rfl⟩ := d
  intro H locs ls hP hS hL
  obtain ⟨cell, h1, h2, h3, h4, h5, h6, h7⟩ := (hZx.1 i hi).2.2.2.2.kept hS.2.1
  have hlen := (str_ok i hi).1
  have hN : cell.slots.size % 4294967296 = n % 4294967296 := by
    have h5' := h5
    rw [hn] at h5'
    have := congrArg (fun z : Int32 => z.toUInt32.toNat) h5'
    simpa using this
  obtain ⟨g1, g2⟩ := in_of hx0 (by omega)
  have hin : ¬ (Int32.ofInt x < 0 ∨ cell.slots.size ≤ (Int32.ofInt x).toNatClampNeg) := by
    intro q
    rcases q with q | q
    · exact g1 (Or.inl q)
    · refine g1 (Or.inr ?_)
      omega
  refine W.bald (v := vI ((strO i).2.2.2.getD x.toNat 0)) hx hb h1 h2 h3 hin (by rw [g2]; exact h6 _ (by omega)) rfl rfl d (k H locs ls hP hS hL)
theorem g_nret {ty : FieldType} (E : Ev p s m args meth c cc nL own A0 D cA ad N Z) {x : Int} (hr : meth.sig.returnType = some ty) (hn : narrow ty (.int (Int32.ofInt x)) = .int (Int32.ofInt x)) (cx : C32 x) (hq : Qp x σ) (hσ : CanS sh N σ) (d : Dc cc pc .ireturn 1 pc') : G p l e R s m args below meth c nL A0 D cA ad sh N cells slots (MQ below (QIc D cA ad sh N Qp A0) args s cells slots A0) σ pc ol [vI x] := by
  obtain ⟨⟨hx, hb, hml, hown, hts⟩, hK, hA, hAa, hAq, hlk, hZx⟩ := E
  obtain ⟨d, rfl⟩ := d
  intro H locs ls hP hS hL
  exact W.zret (Qc := QIc D cA ad sh N Qp A0) (v := Int32.ofInt x) hx hb hr hn (fun t ht hW => ⟨⟨_, (x, σ), rfl, ⟨rfl, cx, hq, hσ⟩, by show va_P _ _ _ t.heap; rw [ht]; exact hP⟩, hS.F ht⟩) hS.2.2 d hlk
theorem g_callvS (E : Ev p s m args meth c cc nL own A0 D cA ad N Z) {y : MethodName} {code : ByteArray} {nL' n L' idx i : Nat} {ret : Option FieldType} {As : List Value} (hm : MYk y code nL' ret n) (hi : Cond.instanceMethod y ∈ gtbl) (hsel : Cond.selects y.cls y y ∈ gtbl) (hl : Cond.methodLink own idx y ∈ gtbl) (hR : (rmL L' 0 0).frames + 1 ≤ R.frames ∧ 8 + (nL' + 11) + (rmL L' 0 0).locals ≤ R.locals) (hcs : cells ≤ R.cells ∧ slots ≤ R.slots) (hii : i < 16) (hcl : y.cls = "java/lang/String") (kt : KtI Z l D cA ad sh N y code nL' ret L' (.ref (Z.1 i) :: As) σ Qp) (hn : As.length = n) (hst : stk = As.reverse ++ .ref (Z.1 i) :: st) (hcat : (st.map fun v => v.category).sum ≤ 8) (d : Dc cc pc (.invokevirtual idx) 3 pc') (kk : ∀ (r : Int) (σ1 : St), C32 r → CanS sh N σ1 → Qp r σ1 → G p l e R s m args below meth c nL A0 D cA ad sh N cells slots Q σ1 pc' ol (vI r :: st)) : G p l e R s m args below meth c nL A0 D cA ad sh N cells slots Q σ pc ol stk := by
  obtain ⟨⟨hx, hb, hml, hown, hts⟩, hK, hA, hAa, hAq, hlk, hZx⟩ := E
  obtain ⟨d, rfl⟩ := d
  intro H locs ls hP hS hL
  have hz : s.heap.size ≤ H.size := hS.1
  have hrec : ∃ cellB : Cell, H[Z.1 i]? = some cellB ∧ cellB.vm.isStatics = false ∧ s.vm.findClass y.cls = some cellB.cls := by
    obtain ⟨cell, h1, h2, h3, -⟩ := (hZx.1 i hii).2.1.kept hS.2.1
    exact ⟨cell, h1, h2, by rw [hcl]; exact h3⟩
  refine va_calli (S := Int × St) (va_runV (As := As) (rest := st) (n := n) (C := y.cls) ⟨hx, hb, hml, hown, hts⟩ (kt H.size) ⟨callB_of n hts (good_code hm.1) rfl rfl rfl (hts _ hm.2.1) (hts _ hl) ⟨hm.2.2.1.1, hm.2.2.1.2, hm.2.2.2.1⟩ hR, hts _ hi, hts _ hsel⟩ ⟨pre_blind, hrec, fun U hU hW => ⟨rfl, by rw [hU], by rw [hU]; exact hP, va_K.moved hW.alike hK, by rw [hU]; exact ((hZx.kept hS.2.1).narrow (AA_sub hAa hAq hz)).warm hW⟩⟩ rfl hn hL.1 hst (lv_room hcat) d hcs) hS (fun q _ h => AA_sub hAa hAq hz q h) (AA_sub hAa hAq hz) (fun r u t H1 locs1 ht hvm hw hB hz1 hk1 hS1 => ?_)
  obtain ⟨r1, σ1⟩ := u
  obtain ⟨rfl, cr, hq, hσ1⟩ := hw
  exact kk r1 σ1 cr hσ1 hq H1 locs1 ls (by rw [← ht]; exact hB) hS1 hL
end GS
section ST
variable {Z : (Nat → Nat) × (Nat → Nat)} {l : Launch} {D : va_G} {cA : Nat → ClassId} {ad : Nat → Nat} {sh : Nat → Shp} {N : Nat} {σ : St} {Q : Int → St → Prop}
theorem s_coder {i : Nat} (hi : i < 16) (hA : AdOk N ad) (hσ : CanS sh N σ) (h : Q 0 σ) : KtI Z l D cA ad sh N yJ0_coder_7d493 cJ0_coder_7d493 1 (some .byte) 0 [.ref (Z.1 i)] σ Q := by
  refine KtI.of sy_J0_coder_7d493 hA [some (.ref (Z.1 i))] (Nat.le_of_ble_eq_true rfl) rfl (fun p e s m args below meth c A0 E hr => ?_)
  refine g_scomp E rfl dJ0_coder_7d493_0 ?_
  refine g_if_eq E (by unfold C32; omega) djJ0_coder_7d493_3 (fun hc => absurd hc (by decide)) (fun _ => ?_)
  refine g_aload_0 E dJ0_coder_7d493_6 ?_
  refine g_scod E hi rfl dJ0_coder_7d493_7 ?_
  refine g_goto E djJ0_coder_7d493_10 ?_
  exact g_nret E hr rfl (by unfold C32; omega) h hσ dJ0_coder_7d493_14
theorem s_isLatin1 {i : Nat} (hi : i < 16) (hA : AdOk N ad) (hσ : CanS sh N σ) (h : Q 1 σ) : KtI Z l D cA ad sh N yJ0_isLatin1_aae02 cJ0_isLatin1_aae02 1 (some .boolean) 0 [.ref (Z.1 i)] σ Q := by
  refine KtI.of sy_J0_isLatin1_aae02 hA [some (.ref (Z.1 i))] (Nat.le_of_ble_eq_true rfl) rfl (fun p e s m args below meth c A0 E hr => ?_)
  refine g_scomp E rfl dJ0_isLatin1_aae02_0 ?_
  refine g_if_eq E (by unfold C32; omega) djJ0_isLatin1_aae02_3 (fun hc => absurd hc (by decide)) (fun _ => ?_)
  refine g_aload_0 E dJ0_isLatin1_aae02_6 ?_
  refine g_scod E hi rfl dJ0_isLatin1_aae02_7 ?_
  refine g_if_ne E c32_0 djJ0_isLatin1_aae02_10 (fun hc => absurd rfl hc) (fun _ => ?_)
  refine g_iconst E dJ0_isLatin1_aae02_13 ?_
  refine g_goto E djJ0_isLatin1_aae02_14 ?_
  exact g_zret E hr (Or.inr rfl) h hσ dJ0_isLatin1_aae02_18
theorem s_precheck {x y : Int} {v : Value} (hv : v.category = 1) (cx : C32 x) (cy : C32 y) (hxy : 0 ≤ x ∧ x < y) (hA : AdOk N ad) (hσ : CanS sh N σ) (h : Q x σ) : KtI Z l D cA ad sh N yJ3_checkIndex_8e157 cJ3_checkIndex_8e157 3 (some .int) 0 [vI x, vI y, v] σ Q := by
  have hl : (lg_sl [vI x, vI y, v]).length ≤ 3 := by
    unfold vI
    cases v <;> first | exact Nat.le_of_ble_eq_true rfl | (exfalso; simp [Value.category] at hv)
  have hol : lvL [some (vI x), some (vI y), some v] 0 = lv_args 0 [vI x, vI y, v] := by
    unfold vI
    cases v <;> first | rfl | (exfalso; simp [Value.category] at hv)
  refine KtI.of sy_J3_checkIndex_8e157 hA [some (vI x), some (vI y), some v] hl hol (fun p e s m args below meth c A0 E hr => ?_)
  refine g_iload_0 E dJ3_checkIndex_8e157_0 ?_
  refine g_if_lt E cx djJ3_checkIndex_8e157_1 (fun hc => absurd hc (by omega)) (fun _ => ?_)
  refine g_iload_0 E dJ3_checkIndex_8e157_4 ?_
  refine g_iload_1 E dJ3_checkIndex_8e157_5 ?_
  refine g_icmp_lt E cx cy djJ3_checkIndex_8e157_6 (fun _ => ?_) (fun hc => absurd hxy.2 hc)
  refine g_iload_0 E dJ3_checkIndex_8e157_16 ?_
  exact g_iret E hr cx h hσ dJ3_checkIndex_8e157_17
theorem s_check {x y : Int} (cx : C32 x) (cy : C32 y) (hxy : 0 ≤ x ∧ x < y) (hA : AdOk N ad) (hσ : CanS sh N σ) (h : Q 0 σ) : KtV Z l D cA ad sh N yJ0_checkIndex_df160 cJ0_checkIndex_df160 2 none 1 [vI x, vI y] σ Q := by
  refine KtV.of sy_J0_checkIndex_df160 hA [some (vI x), some (vI y)] (Nat.le_of_ble_eq_true rfl) rfl (fun p e s m args below meth c A0 E hr => ?_)
  refine g_iload_0 E dJ0_checkIndex_df160_0 ?_
  refine g_iload_1 E dJ0_checkIndex_df160_1 ?_
  refine g_ssio E rfl dJ0_checkIndex_df160_2 (fun v hv => ?_)
  refine g_callsI E sy_J3_checkIndex_8e157 ss_J3_checkIndex_8e157 sk_RJ0_1059 (rm_ok (by decide) (by decide)) ⟨Nat.zero_le _, Nat.zero_le _⟩ (s_precheck (Q := fun r σ1 => σ1 = σ) hv cx cy hxy E.2.2.1 hσ rfl) rfl rfl (Nat.le_of_ble_eq_true rfl) dJ0_checkIndex_df160_5 (fun r σ1 cr hσ1 hq => ?_)
  subst hq
  refine g_pop E rfl dJ0_checkIndex_df160_8 ?_
  exact g_vret E hr h hσ1 dJ0_checkIndex_df160_9
theorem s_latCharAt {i n : Nat} (hi : i < 16) (hn : (strO i).2.2.2.length = n) {x : Int} (hx : 0 ≤ x ∧ x < (n : Int)) (hA : AdOk N ad) (hσ : CanS sh N σ) (h : Q ((strO i).2.2.2.getD x.toNat 0) σ) : KtI Z l D cA ad sh N yJ1_charAt_3b067 cJ1_charAt_3b067 2 (some .char) 2 [.ref (Z.2 i), vI x] σ Q := by
  have hlen := (str_ok i hi).1
  have cn : C32 (n : Int) := by unfold C32; omega
  have cx : C32 x := by unfold C32; omega
  refine KtI.of sy_J1_charAt_3b067 hA [some (.ref (Z.2 i)), some (vI x)] (Nat.le_of_ble_eq_true rfl) rfl (fun p e s m args below meth c A0 E hr => ?_)
  refine g_iload_1 E dJ1_charAt_3b067_0 ?_
  refine g_aload_0 E dJ1_charAt_3b067_1 ?_
  refine g_salen E hi hn dJ1_charAt_3b067_2 ?_
  refine g_callsV E sy_J0_checkIndex_df160 ss_J0_checkIndex_df160 sk_RJ1_9 (rm_ok (by decide) (by decide)) ⟨Nat.zero_le _, Nat.zero_le _⟩ (s_check (Q := fun r σ1 => σ1 = σ) cx cn hx E.2.2.1 hσ rfl) rfl rfl (Nat.le_of_ble_eq_true rfl) dJ1_charAt_3b067_3 (fun σ1 r hσ1 hq => ?_)
  subst hq
  refine g_aload_0 E dJ1_charAt_3b067_6 ?_
  refine g_iload_1 E dJ1_charAt_3b067_7 ?_
  refine g_sbald E hi hn hx dJ1_charAt_3b067_8 ?_
  refine g_sipush E (by decide) dJ1_charAt_3b067_9 ?_
  refine g_iand E dJ1_charAt_3b067_12 ?_
  refine g_i2c E dJ1_charAt_3b067_13 ?_
  have hb := str_get hi x.toNat
  generalize (strO i).2.2.2.getD x.toNat 0 = b at *
  have key : ∀ k : Nat, k < 128 → b_char (b_and (k : Int) 255) = (k : Int) ∧ narrow .char (.int (Int32.ofInt (k : Int))) = .int (Int32.ofInt (k : Int)) := by decide +kernel
  obtain ⟨k, rfl⟩ : ∃ k : Nat, b = (k : Int) := ⟨b.toNat, by omega⟩
  rw [(key k (by omega)).1]
  exact g_nret E hr (key k (by omega)).2 (by unfold C32; omega) h hσ1 dJ1_charAt_3b067_14
theorem s_charAt {i n : Nat} (hi : i < 16) (hn : (strO i).2.2.2.length = n) {x : Int} (hx : 0 ≤ x ∧ x < (n : Int)) (hA : AdOk N ad) (hσ : CanS sh N σ) (h : Q ((strO i).2.2.2.getD x.toNat 0) σ) : KtI Z l D cA ad sh N yJ0_charAt_5068e cJ0_charAt_5068e 2 (some .char) 4 [.ref (Z.1 i), vI x] σ Q := by
  have hlen := (str_ok i hi).1
  have cx : C32 x := by unfold C32; omega
  refine KtI.of sy_J0_charAt_5068e hA [some (.ref (Z.1 i)), some (vI x)] (Nat.le_of_ble_eq_true rfl) rfl (fun p e s m args below meth c A0 E hr => ?_)
  refine g_aload_0 E dJ0_charAt_5068e_0 ?_
  refine g_callvS E sy_J0_isLatin1_aae02 si_J0_isLatin1_aae02 sl_J0_isLatin1_aae02 sk_RJ0_492 (rm_ok (by decide) (by decide)) ⟨Nat.zero_le _, Nat.zero_le _⟩ hi rfl (s_isLatin1 (Q := fun r σ1 => r = 1 ∧ σ1 = σ) hi E.2.2.1 hσ ⟨rfl, rfl⟩) rfl rfl (Nat.le_of_ble_eq_true rfl) dJ0_charAt_5068e_1 (fun r σ1 cr hσ1 hq => ?_)
  obtain ⟨rfl, rfl⟩ := hq
  refine g_if_eq E cr djJ0_charAt_5068e_4 (fun hc => absurd hc (by decide)) (fun _ => ?_)
  refine g_aload_0 E dJ0_charAt_5068e_7 ?_
  refine g_sval E hi rfl dJ0_charAt_5068e_8 ?_
  refine g_iload_1 E dJ0_charAt_5068e_11 ?_
  refine g_callsI E sy_J1_charAt_3b067 ss_J1_charAt_3b067 sk_RJ0_495 (rm_ok (by decide) (by decide)) ⟨Nat.zero_le _, Nat.zero_le _⟩ (s_latCharAt (Q := fun r τ => r = (strO i).2.2.2.getD x.toNat 0 ∧ τ = σ1) hi hn hx E.2.2.1 hσ1 ⟨rfl, rfl⟩) rfl rfl (Nat.le_of_ble_eq_true rfl) dJ0_charAt_5068e_12 (fun r σ2 cr hσ2 hq => ?_)
  obtain ⟨rfl, rfl⟩ := hq
  have hb := str_get hi x.toNat
  generalize (strO i).2.2.2.getD x.toNat 0 = b at *
  have key : ∀ k : Nat, k < 128 → narrow .char (.int (Int32.ofInt (k : Int))) = .int (Int32.ofInt (k : Int)) := by decide +kernel
  obtain ⟨k, rfl⟩ : ∃ k : Nat, b = (k : Int) := ⟨b.toNat, by omega⟩
  exact g_nret E hr (key k (by omega)) cr h hσ2 dJ0_charAt_5068e_15
theorem s_length {i n : Nat} (hi : i < 16) (hn : (strO i).2.2.2.length = n) (hA : AdOk N ad) (hσ : CanS sh N σ) (h : Q (n : Int) σ) : KtI Z l D cA ad sh N yJ0_length_8abf5 cJ0_length_8abf5 1 (some .int) 4 [.ref (Z.1 i)] σ Q := by
  have hlen := (str_ok i hi).1
  have cn : C32 (n : Int) := by unfold C32; omega
  refine KtI.of sy_J0_length_8abf5 hA [some (.ref (Z.1 i))] (Nat.le_of_ble_eq_true rfl) rfl (fun p e s m args below meth c A0 E hr => ?_)
  refine g_aload_0 E dJ0_length_8abf5_0 ?_
  refine g_sval E hi rfl dJ0_length_8abf5_1 ?_
  refine g_salen E hi hn dJ0_length_8abf5_4 ?_
  refine g_aload_0 E dJ0_length_8abf5_5 ?_
  refine g_callvS E sy_J0_coder_7d493 si_J0_coder_7d493 sl_J0_coder_7d493 sk_RJ0_335 (rm_ok (by decide) (by decide)) ⟨Nat.zero_le _, Nat.zero_le _⟩ hi rfl (s_coder (Q := fun r σ1 => r = 0 ∧ σ1 = σ) hi E.2.2.1 hσ ⟨rfl, rfl⟩) rfl rfl (Nat.le_of_ble_eq_true rfl) dJ0_length_8abf5_6 (fun r σ1 cr hσ1 hq => ?_)
  obtain ⟨rfl, rfl⟩ := hq
  refine g_ishr E dJ0_length_8abf5_9 ?_
  have e : b_shr (n : Int) 0 = (n : Int) := by
    unfold b_shr
    rw [show (Int32.ofInt 0 &&& 31 : Int32) = 0 by decide, Int32.shiftRight_zero, i_toInt cn]
  rw [e]
  exact g_iret E hr cn h hσ1 dJ0_length_8abf5_10
end ST
section SU
variable {p : Program} {l : Launch} {e : Env} {R : Room} {s : State} {m : MethodId} {args : Array Value} {below : List Frame} {meth : Method} {c : Code} {nL : Nat} {A0 : Nat → Prop} {D : va_G} {cA : Nat → ClassId} {ad : Nat → Nat} {sh : Nat → Shp} {N cells slots : Nat} {Q : State → Prop} {cc : ByteArray} {own : String} {Z : (Nat → Nat) × (Nat → Nat)}
variable {σ : St} {pc pc' tgt : Nat} {ol : List (Option Value)} {st stk : List Value}
theorem g_slen (E : Ev p s m args meth c cc nL own A0 D cA ad N Z) {idx i n : Nat} (hl : Cond.methodLink own idx yJ0_length_8abf5 ∈ gtbl) (hi : i < 16) (hσ : CanS sh N σ) (hn : (strO i).2.2.2.length = n) (hcat : (st.map fun v => v.category).sum ≤ 8) (hR : (rmL 4 0 0).frames + 1 ≤ R.frames ∧ 8 + (2 + 11) + (rmL 4 0 0).locals ≤ R.locals) (hcs : cells ≤ R.cells ∧ slots ≤ R.slots) (d : Dc cc pc (.invokevirtual idx) 3 pc') (k : G p l e R s m args below meth c nL A0 D cA ad sh N cells slots Q σ pc' ol (vI (n : Int) :: st)) : G p l e R s m args below meth c nL A0 D cA ad sh N cells slots Q σ pc ol (.ref (Z.1 i) :: st) := by
  refine g_callvS E sy_J0_length_8abf5 si_J0_length_8abf5 sl_J0_length_8abf5 hl ⟨hR.1, by omega⟩ hcs hi rfl (s_length (Q := fun r σ1 => r = (n : Int) ∧ σ1 = σ) hi hn E.2.2.1 hσ ⟨rfl, rfl⟩) rfl rfl hcat d (fun r σ1 cr hσ1 hq => ?_)
  obtain ⟨rfl, rfl⟩ := hq
  exact k
theorem g_schar (E : Ev p s m args meth c cc nL own A0 D cA ad N Z) {idx i n : Nat} {x : Int} (hl : Cond.methodLink own idx yJ0_charAt_5068e ∈ gtbl) (hi : i < 16) (hσ : CanS sh N σ) (hn : (strO i).2.2.2.length = n) (hx0 : 0 ≤ x ∧ x < (n : Int)) (hcat : (st.map fun v => v.category).sum ≤ 8) (hR : (rmL 4 0 0).frames + 1 ≤ R.frames ∧ 8 + (2 + 11) + (rmL 4 0 0).locals ≤ R.locals) (hcs : cells ≤ R.cells ∧ slots ≤ R.slots) (d : Dc cc pc (.invokevirtual idx) 3 pc') (k : G p l e R s m args below meth c nL A0 D cA ad sh N cells slots Q σ pc' ol (vI ((strO i).2.2.2.getD x.toNat 0) :: st)) : G p l e R s m args below meth c nL A0 D cA ad sh N cells slots Q σ pc ol (vI x :: .ref (Z.1 i) :: st) := by
  refine g_callvS E sy_J0_charAt_5068e si_J0_charAt_5068e sl_J0_charAt_5068e hl hR hcs hi rfl (s_charAt (Q := fun r σ1 => r = (strO i).2.2.2.getD x.toNat 0 ∧ σ1 = σ) hi hn hx0 E.2.2.1 hσ ⟨rfl, rfl⟩) rfl rfl hcat d (fun r σ1 cr hσ1 hq => ?_)
  obtain ⟨rfl, rfl⟩ := hq
  exact k
end SU
