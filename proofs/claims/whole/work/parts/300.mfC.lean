def Fr (S : Nat → Nat → Bool) (σ0 σ : St) : Prop := ∀ k j, S k j = false → σ k j = σ0 k j
theorem Fr.rf {S : Nat → Nat → Bool} {σ : St} : Fr S σ σ := fun _ _ _ => rfl
theorem Fr.up {S : Nat → Nat → Bool} {σ0 σ : St} {k j : Nat} {v : Int} (f : Fr S σ0 σ) (h : S k j = true) : Fr S σ0 (upS σ k j v) := by
  intro a b hs
  unfold upS
  split
  · next e => rw [e.1, e.2, h] at hs; cases hs
  · exact f a b hs
theorem Fr.cp {S : Nat → Nat → Bool} {σ0 σ : St} {k1 k2 sp dp n : Nat} (f : Fr S σ0 σ) (h : ∀ j, S k2 j = true) : Fr S σ0 (copyS σ k1 k2 sp dp n) := by
  intro a b hs
  unfold copyS
  split
  · next e => rw [e.1, h] at hs; cases hs
  · exact f a b hs
theorem Fr.tr {S S1 : Nat → Nat → Bool} {σ0 σ σ1 : St} (f : Fr S σ0 σ) (g : Fr S1 σ σ1) (hs : ∀ k j, S1 k j = true → S k j = true) : Fr S σ0 σ1 := by
  intro k j h
  have h1 : S1 k j = false := by
    cases e : S1 k j with
    | false => rfl
    | true => rw [hs k j e] at h; cases h
  rw [g k j h1, f k j h]
def mkS (A : List Nat) (F : List (Nat × Nat)) : Nat → Nat → Bool := fun k j => A.contains k || F.contains (k, j)
theorem mkS_sub {A A1 : List Nat} {F F1 : List (Nat × Nat)} (hA : ∀ a ∈ A1, a ∈ A) (hF : ∀ q ∈ F1, q.1 ∈ A ∨ q ∈ F) : ∀ k j, mkS A1 F1 k j = true → mkS A F k j = true := by
  intro k j h
  unfold mkS at *
  rw [Bool.or_eq_true] at *
  rcases h with h | h
  · left
    exact List.contains_iff_mem.mpr (hA k (List.contains_iff_mem.mp h))
  · rcases hF (k, j) (List.contains_iff_mem.mp h) with g | g
    · exact Or.inl (List.contains_iff_mem.mpr g)
    · exact Or.inr (List.contains_iff_mem.mpr g)
abbrev S_X11_putFour : Nat → Nat → Bool := mkS [1] [(0, 1)]
abbrev S_X11_feed : Nat → Nat → Bool := mkS [1] [(0, 1)]
abbrev S_X11_end : Nat → Nat → Bool := mkS [] [(0, 1)]
abbrev S_X4_clear_d : Nat → Nat → Bool := mkS [11, 12] [(4, 0), (4, 7), (4, 8), (4, 9)]
abbrev S_X6_isBlank : Nat → Nat → Bool := mkS [] []
abbrev S_X6_isSmall : Nat → Nat → Bool := mkS [] []
abbrev S_X6_isDigit : Nat → Nat → Bool := mkS [] []
abbrev S_X6_advance : Nat → Nat → Bool := mkS [] [(3, 5), (3, 6), (3, 7), (3, 8)]
abbrev S_X6_isWord_s0 : Nat → Nat → Bool := mkS [] []
abbrev S_X6_isWord_s3 : Nat → Nat → Bool := mkS [] []
abbrev S_X6_fail : Nat → Nat → Bool := mkS [] [(3, 2), (3, 3)]
abbrev S_X6_readNumber : Nat → Nat → Bool := mkS [] [(3, 2), (3, 3), (3, 5), (3, 6), (3, 7), (3, 8)]
abbrev S_X6_isWord_s4 : Nat → Nat → Bool := mkS [] []
abbrev S_X6_passWord_s4 : Nat → Nat → Bool := mkS [] [(3, 2), (3, 3), (3, 5), (3, 6), (3, 7), (3, 8)]
abbrev S_X6_isWord_s5 : Nat → Nat → Bool := mkS [] []
abbrev S_X6_passWord_s5 : Nat → Nat → Bool := mkS [] [(3, 2), (3, 3), (3, 5), (3, 6), (3, 7), (3, 8)]
abbrev S_X6_isWord_s6 : Nat → Nat → Bool := mkS [] []
abbrev S_X6_passWord_s6 : Nat → Nat → Bool := mkS [] [(3, 2), (3, 3), (3, 5), (3, 6), (3, 7), (3, 8)]
abbrev S_X6_readRow_c11 : Nat → Nat → Bool := mkS [11] [(3, 2), (3, 3), (3, 5), (3, 6), (3, 7), (3, 8)]
abbrev S_X6_isWord_s7 : Nat → Nat → Bool := mkS [] []
abbrev S_X6_passWord_s7 : Nat → Nat → Bool := mkS [] [(3, 2), (3, 3), (3, 5), (3, 6), (3, 7), (3, 8)]
abbrev S_X6_readRow_c12 : Nat → Nat → Bool := mkS [12] [(3, 2), (3, 3), (3, 5), (3, 6), (3, 7), (3, 8)]
abbrev S_X6_readTable : Nat → Nat → Bool := mkS [11, 12] [(3, 2), (3, 3), (3, 5), (3, 6), (3, 7), (3, 8), (4, 7), (4, 8), (4, 9)]
abbrev S_X6_isLabel : Nat → Nat → Bool := mkS [] []
abbrev S_X6_isLetter : Nat → Nat → Bool := mkS [] []
abbrev S_X6_readPart : Nat → Nat → Bool := mkS [] [(3, 2), (3, 3), (3, 5), (3, 6), (3, 7), (3, 8)]
abbrev S_X6_passSign : Nat → Nat → Bool := mkS [] [(3, 2), (3, 3), (3, 5), (3, 6), (3, 7), (3, 8)]
abbrev S_X6_isWord_s1 : Nat → Nat → Bool := mkS [] []
abbrev S_X6_isWord_s2 : Nat → Nat → Bool := mkS [] []
abbrev S_X6_readRule : Nat → Nat → Bool := mkS [5, 6, 7, 8, 9] [(3, 2), (3, 3), (3, 5), (3, 6), (3, 7), (3, 8), (4, 0)]
abbrev S_X6_read : Nat → Nat → Bool := mkS [5, 6, 7, 8, 9, 11, 12] [(3, 2), (3, 3), (3, 4), (3, 5), (3, 6), (3, 7), (3, 8), (4, 0), (4, 7), (4, 8), (4, 9)]
abbrev S_X4_take_c4 : Nat → Nat → Bool := mkS [15, 16, 17, 18, 19, 20, 21, 22] [(14, 0), (14, 7), (14, 8), (14, 9)]
abbrev S_X0_forget : Nat → Nat → Bool := mkS [] [(24, 17)]
abbrev S_X2_forget : Nat → Nat → Bool := mkS [] [(41, 6), (41, 7), (41, 8)]
abbrev S_X9_forget : Nat → Nat → Bool := mkS [] [(50, 6)]
abbrev S_X1_forget : Nat → Nat → Bool := mkS [] [(36, 7), (36, 8), (36, 9)]
abbrev S_X7_forget : Nat → Nat → Bool := mkS [] [(45, 7)]
abbrev S_X3_forget : Nat → Nat → Bool := mkS [60] []
abbrev S_J7_fill_53178_C_c77 : Nat → Nat → Bool := mkS [77] []
abbrev S_J7_fill_53178_C_c78 : Nat → Nat → Bool := mkS [78] []
abbrev S_J7_fill_d0a16_C_c79 : Nat → Nat → Bool := mkS [79] []
abbrev S_X8_forget : Nat → Nat → Bool := mkS [77, 78, 79] []
abbrev S_X5_forget : Nat → Nat → Bool := mkS [] [(80, 9)]
abbrev S_X11_forgetCosts : Nat → Nat → Bool := mkS [60, 77, 78, 79] [(36, 7), (36, 8), (36, 9), (45, 7), (80, 9)]
abbrev S_X11_forgetCases : Nat → Nat → Bool := mkS [60, 77, 78, 79] [(24, 17), (36, 7), (36, 8), (36, 9), (41, 6), (41, 7), (41, 8), (45, 7), (50, 6), (80, 9)]
abbrev S_X11_grammar : Nat → Nat → Bool := mkS [5, 6, 7, 8, 9, 11, 12, 15, 16, 17, 18, 19, 20, 21, 22, 60, 77, 78, 79] [(0, 1), (3, 2), (3, 3), (3, 4), (3, 5), (3, 6), (3, 7), (3, 8), (4, 0), (4, 7), (4, 8), (4, 9), (14, 0), (14, 7), (14, 8), (14, 9), (24, 17), (36, 7), (36, 8), (36, 9), (41, 6), (41, 7), (41, 8), (45, 7), (50, 6), (80, 9)]
abbrev S_X11_fault : Nat → Nat → Bool := mkS [] []
abbrev S_X11_lettersAlone : Nat → Nat → Bool := mkS [] []
abbrev S_X0_hear_c1 : Nat → Nat → Bool := mkS [25] [(24, 2)]
abbrev S_X11_say : Nat → Nat → Bool := mkS [25, 60, 77, 78, 79] [(0, 1), (24, 2), (24, 17), (36, 7), (36, 8), (36, 9), (41, 6), (41, 7), (41, 8), (45, 7), (50, 6), (80, 9)]
abbrev S_X4_start : Nat → Nat → Bool := mkS [] []
abbrev S_X0_layOutSpans : Nat → Nat → Bool := mkS [26, 27, 28] [(24, 3)]
abbrev S_X4_isUnary : Nat → Nat → Bool := mkS [] []
abbrev S_X0_gatherLive : Nat → Nat → Bool := mkS [33, 34] [(24, 12), (24, 14)]
abbrev S_X0_partOver : Nat → Nat → Bool := mkS [] []
abbrev S_X0_addCase : Nat → Nat → Bool := mkS [29, 30, 31, 32] [(24, 16)]
abbrev S_X0_addCases : Nat → Nat → Bool := mkS [29, 30, 31, 32] [(24, 16)]
abbrev S_X0_addSpan : Nat → Nat → Bool := mkS [29, 30, 31, 32, 35] [(24, 16)]
abbrev S_X0_build : Nat → Nat → Bool := mkS [26, 27, 28, 29, 30, 31, 32, 33, 34, 35] [(24, 3), (24, 12), (24, 14), (24, 16), (24, 17)]
abbrev S_X0_caseStart : Nat → Nat → Bool := mkS [] []
abbrev S_X0_caseEnd : Nat → Nat → Bool := mkS [] []
abbrev S_X0_goesOn : Nat → Nat → Bool := mkS [] []
abbrev S_X1_join : Nat → Nat → Bool := mkS [] []
abbrev S_X1_lesser : Nat → Nat → Bool := mkS [] []
abbrev S_X1_leastOfCases_c37 : Nat → Nat → Bool := mkS [] []
abbrev S_X1_relax_c37 : Nat → Nat → Bool := mkS [37] []
abbrev S_X1_fill_c37 : Nat → Nat → Bool := mkS [37] []
abbrev S_X1_prepare : Nat → Nat → Bool := mkS [26, 27, 28, 29, 30, 31, 32, 33, 34, 35, 37] [(24, 3), (24, 12), (24, 14), (24, 16), (24, 17), (36, 7)]
abbrev S_X0_itemCount : Nat → Nat → Bool := mkS [] []
abbrev S_X1_has : Nat → Nat → Bool := mkS [] []
abbrev S_X1_itemsWithTrees : Nat → Nat → Bool := mkS [26, 27, 28, 29, 30, 31, 32, 33, 34, 35, 37] [(24, 3), (24, 12), (24, 14), (24, 16), (24, 17), (36, 7)]
abbrev S_X4_rulesIn : Nat → Nat → Bool := mkS [] []
abbrev S_X11_count : Nat → Nat → Bool := mkS [26, 27, 28, 29, 30, 31, 32, 33, 34, 35, 37] [(24, 3), (24, 12), (24, 14), (24, 16), (24, 17), (36, 7)]
abbrev S_X4_knows : Nat → Nat → Bool := mkS [] []
abbrev S_X11_rule : Nat → Nat → Bool := mkS [] []
abbrev S_X4_isElement : Nat → Nat → Bool := mkS [] []
abbrev S_X4_plus : Nat → Nat → Bool := mkS [] []
abbrev S_X4_times : Nat → Nat → Bool := mkS [] []
abbrev S_X11_table : Nat → Nat → Bool := mkS [] []
abbrev S_X11_drops : Nat → Nat → Bool := mkS [20, 60, 77, 78, 79] [(24, 17), (36, 7), (36, 8), (36, 9), (41, 6), (41, 7), (41, 8), (45, 7), (50, 6), (80, 9)]
abbrev S_X11_prices : Nat → Nat → Bool := mkS [18, 60, 77, 78, 79] [(36, 7), (36, 8), (36, 9), (45, 7), (80, 9)]
abbrev S_X11_elements : Nat → Nat → Bool := mkS [19] [(50, 6)]
abbrev S_X0_itemAt : Nat → Nat → Bool := mkS [] []
abbrev S_X11_itemOf : Nat → Nat → Bool := mkS [26, 27, 28, 29, 30, 31, 32, 33, 34, 35] [(24, 3), (24, 12), (24, 14), (24, 16), (24, 17)]
abbrev S_X1_lowestOf : Nat → Nat → Bool := mkS [26, 27, 28, 29, 30, 31, 32, 33, 34, 35, 37] [(24, 3), (24, 12), (24, 14), (24, 16), (24, 17), (36, 7)]
abbrev S_X11_can : Nat → Nat → Bool := mkS [26, 27, 28, 29, 30, 31, 32, 33, 34, 35, 37] [(24, 3), (24, 12), (24, 14), (24, 16), (24, 17), (36, 7)]
abbrev S_X11_least : Nat → Nat → Bool := mkS [26, 27, 28, 29, 30, 31, 32, 33, 34, 35, 37] [(24, 3), (24, 12), (24, 14), (24, 16), (24, 17), (36, 7)]
abbrev S_X2_targets : Nat → Nat → Bool := mkS [] []
abbrev S_X2_labelsThatGoOn : Nat → Nat → Bool := mkS [] []
abbrev S_X1_isFull : Nat → Nat → Bool := mkS [] []
abbrev S_X8_multiply : Nat → Nat → Bool := mkS [] []
abbrev S_X2_endlessProduct : Nat → Nat → Bool := mkS [] []
abbrev S_X8_add : Nat → Nat → Bool := mkS [] []
abbrev S_X2_endlessSum : Nat → Nat → Bool := mkS [] []
abbrev S_X2_countCases : Nat → Nat → Bool := mkS [] []
abbrev S_X2_addTargets : Nat → Nat → Bool := mkS [42] []
abbrev S_X2_countSpan : Nat → Nat → Bool := mkS [42] []
abbrev S_X2_treesOf : Nat → Nat → Bool := mkS [26, 27, 28, 29, 30, 31, 32, 33, 34, 35, 37, 42] [(24, 3), (24, 12), (24, 14), (24, 16), (24, 17), (36, 7), (41, 6)]
abbrev S_X11_tellNumber : Nat → Nat → Bool := mkS [] []
abbrev S_X11_ways : Nat → Nat → Bool := mkS [26, 27, 28, 29, 30, 31, 32, 33, 34, 35, 37, 42] [(24, 3), (24, 12), (24, 14), (24, 16), (24, 17), (36, 7), (41, 6)]
abbrev S_X1_leastOfCases_c38 : Nat → Nat → Bool := mkS [] []
abbrev S_X1_relax_c38 : Nat → Nat → Bool := mkS [38] []
abbrev S_X1_fill_c38 : Nat → Nat → Bool := mkS [38] []
abbrev S_X1_mildestOf : Nat → Nat → Bool := mkS [26, 27, 28, 29, 30, 31, 32, 33, 34, 35, 38] [(24, 3), (24, 12), (24, 14), (24, 16), (24, 17), (36, 8)]
abbrev S_X11_dearest : Nat → Nat → Bool := mkS [26, 27, 28, 29, 30, 31, 32, 33, 34, 35, 38] [(24, 3), (24, 12), (24, 14), (24, 16), (24, 17), (36, 8)]
abbrev S_X2_gatherCases_c44 : Nat → Nat → Bool := mkS [] []
abbrev S_X2_gatherUnaries_c44 : Nat → Nat → Bool := mkS [44] []
abbrev S_X2_gather_c44 : Nat → Nat → Bool := mkS [44] []
abbrev S_X2_inEach : Nat → Nat → Bool := mkS [26, 27, 28, 29, 30, 31, 32, 33, 34, 35, 37, 44] [(24, 3), (24, 12), (24, 14), (24, 16), (24, 17), (36, 7), (41, 8)]
abbrev S_X2_gatherCases_c43 : Nat → Nat → Bool := mkS [] []
abbrev S_X2_gatherUnaries_c43 : Nat → Nat → Bool := mkS [43] []
abbrev S_X2_gather_c43 : Nat → Nat → Bool := mkS [43] []
abbrev S_X2_inSome : Nat → Nat → Bool := mkS [26, 27, 28, 29, 30, 31, 32, 33, 34, 35, 37, 43] [(24, 3), (24, 12), (24, 14), (24, 16), (24, 17), (36, 7), (41, 7)]
abbrev S_X11_used : Nat → Nat → Bool := mkS [26, 27, 28, 29, 30, 31, 32, 33, 34, 35, 37, 43, 44] [(24, 3), (24, 12), (24, 14), (24, 16), (24, 17), (36, 7), (41, 7), (41, 8)]
abbrev S_J7_fill_53178_C_c48 : Nat → Nat → Bool := mkS [48] []
abbrev S_X7_swapRows : Nat → Nat → Bool := mkS [48] []
abbrev S_X7_inverse : Nat → Nat → Bool := mkS [] []
abbrev S_X7_scaleRow : Nat → Nat → Bool := mkS [48] []
abbrev S_J9_floorMod_7cf53_C : Nat → Nat → Bool := mkS [] []
abbrev S_X7_subtractRow : Nat → Nat → Bool := mkS [48] []
abbrev S_X7_eliminate : Nat → Nat → Bool := mkS [48] []
abbrev S_X7_setEquation : Nat → Nat → Bool := mkS [48] []
abbrev S_X7_solveSpan : Nat → Nat → Bool := mkS [46, 47, 48, 49] []
abbrev S_X7_sumOf : Nat → Nat → Bool := mkS [26, 27, 28, 29, 30, 31, 32, 33, 34, 35, 37, 46, 47, 48, 49] [(24, 3), (24, 12), (24, 14), (24, 16), (24, 17), (36, 7), (45, 7)]
abbrev S_X11_sum : Nat → Nat → Bool := mkS [26, 27, 28, 29, 30, 31, 32, 33, 34, 35, 37, 46, 47, 48, 49] [(24, 3), (24, 12), (24, 14), (24, 16), (24, 17), (36, 7), (45, 7)]
abbrev S_J7_fill_53178_C_c51 : Nat → Nat → Bool := mkS [51] []
abbrev S_X9_partValue : Nat → Nat → Bool := mkS [] []
abbrev S_X9_renewed : Nat → Nat → Bool := mkS [] []
abbrev S_X9_changeAll : Nat → Nat → Bool := mkS [51, 52] []
abbrev S_X9_roundsTaken : Nat → Nat → Bool := mkS [26, 27, 28, 29, 30, 31, 32, 33, 34, 35, 51, 52] [(24, 3), (24, 12), (24, 14), (24, 16), (24, 17), (50, 5), (50, 6)]
abbrev S_X9_valueOf : Nat → Nat → Bool := mkS [26, 27, 28, 29, 30, 31, 32, 33, 34, 35, 51, 52] [(24, 3), (24, 12), (24, 14), (24, 16), (24, 17), (50, 5), (50, 6)]
abbrev S_X11_value : Nat → Nat → Bool := mkS [26, 27, 28, 29, 30, 31, 32, 33, 34, 35, 51, 52] [(24, 3), (24, 12), (24, 14), (24, 16), (24, 17), (50, 5), (50, 6)]
abbrev S_X11_rounds : Nat → Nat → Bool := mkS [26, 27, 28, 29, 30, 31, 32, 33, 34, 35, 51, 52] [(24, 3), (24, 12), (24, 14), (24, 16), (24, 17), (50, 5), (50, 6)]
abbrev S_X9_meetAll : Nat → Nat → Bool := mkS [53] []
abbrev S_X9_keep : Nat → Nat → Bool := mkS [] []
abbrev S_X9_lawsOfOne : Nat → Nat → Bool := mkS [] []
abbrev S_X9_lawsOfMore : Nat → Nat → Bool := mkS [] []
abbrev S_X9_lawsKept : Nat → Nat → Bool := mkS [26, 27, 28, 29, 30, 31, 32, 33, 34, 35, 51, 52, 53] [(24, 3), (24, 12), (24, 14), (24, 16), (24, 17), (50, 5), (50, 6)]
abbrev S_X11_laws : Nat → Nat → Bool := mkS [26, 27, 28, 29, 30, 31, 32, 33, 34, 35, 51, 52, 53] [(24, 3), (24, 12), (24, 14), (24, 16), (24, 17), (50, 5), (50, 6)]
abbrev S_X1_fullCases : Nat → Nat → Bool := mkS [26, 27, 28, 29, 30, 31, 32, 33, 34, 35, 37] [(24, 3), (24, 12), (24, 14), (24, 16), (24, 17), (36, 7)]
abbrev S_X1_casesAround : Nat → Nat → Bool := mkS [26, 27, 28, 29, 30, 31, 32, 33, 34, 35, 37] [(24, 3), (24, 12), (24, 14), (24, 16), (24, 17), (36, 7)]
abbrev S_X11_cases : Nat → Nat → Bool := mkS [26, 27, 28, 29, 30, 31, 32, 33, 34, 35, 37] [(24, 3), (24, 12), (24, 14), (24, 16), (24, 17), (36, 7)]
abbrev S_X1_putInOrder : Nat → Nat → Bool := mkS [40] [(36, 6)]
abbrev S_X1_itemInOrder : Nat → Nat → Bool := mkS [26, 27, 28, 29, 30, 31, 32, 33, 34, 35, 37, 40] [(24, 3), (24, 12), (24, 14), (24, 16), (24, 17), (36, 6), (36, 7), (36, 9)]
abbrev S_X0_beginOf : Nat → Nat → Bool := mkS [] []
abbrev S_X0_finishOf : Nat → Nat → Bool := mkS [] []
abbrev S_X11_settled : Nat → Nat → Bool := mkS [26, 27, 28, 29, 30, 31, 32, 33, 34, 35, 37, 40] [(24, 3), (24, 12), (24, 14), (24, 16), (24, 17), (36, 6), (36, 7), (36, 9)]
abbrev S_X11_isPlace : Nat → Nat → Bool := mkS [] []
abbrev S_X0_isInside : Nat → Nat → Bool := mkS [] []
abbrev S_X3_caseOfRule : Nat → Nat → Bool := mkS [] []
abbrev S_X3_isSmaller : Nat → Nat → Bool := mkS [] []
abbrev S_X3_putInBase : Nat → Nat → Bool := mkS [61, 62, 63, 64] []
abbrev S_X3_gatherPairs : Nat → Nat → Bool := mkS [61, 62, 63, 64] []
abbrev S_X3_gatherBase : Nat → Nat → Bool := mkS [61, 62, 63, 64] []
abbrev S_X3_append : Nat → Nat → Bool := mkS [55, 56, 57, 58, 59] []
abbrev S_X3_takeOfBase : Nat → Nat → Bool := mkS [55, 56, 57, 58, 59, 65] []
abbrev S_X3_takeAllOfBase : Nat → Nat → Bool := mkS [55, 56, 57, 58, 59, 65] []
abbrev S_X3_findHead : Nat → Nat → Bool := mkS [] [(54, 16), (54, 17)]
abbrev S_X3_takeLeast : Nat → Nat → Bool := mkS [55, 56, 57, 58, 59, 65, 67] [(54, 16), (54, 17)]
abbrev S_X3_growSpan : Nat → Nat → Bool := mkS [55, 56, 57, 58, 59, 61, 62, 63, 64, 65, 66, 67] [(54, 16), (54, 17)]
abbrev S_X3_treeOf : Nat → Nat → Bool := mkS [26, 27, 28, 29, 30, 31, 32, 33, 34, 35, 37, 55, 56, 57, 58, 59, 60, 61, 62, 63, 64, 65, 66, 67] [(24, 3), (24, 12), (24, 14), (24, 16), (24, 17), (36, 7), (54, 16), (54, 17)]
abbrev S_X11_best : Nat → Nat → Bool := mkS [26, 27, 28, 29, 30, 31, 32, 33, 34, 35, 37, 55, 56, 57, 58, 59, 60, 61, 62, 63, 64, 65, 66, 67] [(24, 3), (24, 12), (24, 14), (24, 16), (24, 17), (36, 7), (54, 16), (54, 17)]
abbrev S_X10_push : Nat → Nat → Bool := mkS [69, 70] [(68, 6)]
abbrev S_X3_rightTree : Nat → Nat → Bool := mkS [] []
abbrev S_X10_pushTree : Nat → Nat → Bool := mkS [69, 70] [(68, 6)]
abbrev S_X3_leftTree : Nat → Nat → Bool := mkS [] []
abbrev S_X10_follow : Nat → Nat → Bool := mkS [69, 70, 71] [(68, 6), (68, 7), (68, 8)]
abbrev S_X11_size : Nat → Nat → Bool := mkS [26, 27, 28, 29, 30, 31, 32, 33, 34, 35, 37, 55, 56, 57, 58, 59, 60, 61, 62, 63, 64, 65, 66, 67, 69, 70, 71] [(24, 3), (24, 12), (24, 14), (24, 16), (24, 17), (36, 7), (54, 16), (54, 17), (68, 6), (68, 7), (68, 8)]
abbrev S_X10_caseAt : Nat → Nat → Bool := mkS [] []
abbrev S_X10_ruleOf : Nat → Nat → Bool := mkS [] []
abbrev S_X11_step : Nat → Nat → Bool := mkS [26, 27, 28, 29, 30, 31, 32, 33, 34, 35, 37, 55, 56, 57, 58, 59, 60, 61, 62, 63, 64, 65, 66, 67, 69, 70, 71] [(24, 3), (24, 12), (24, 14), (24, 16), (24, 17), (36, 7), (54, 16), (54, 17), (68, 6), (68, 7), (68, 8)]
abbrev S_X11_wholeItem : Nat → Nat → Bool := mkS [26, 27, 28, 29, 30, 31, 32, 33, 34, 35] [(24, 3), (24, 12), (24, 14), (24, 16), (24, 17)]
abbrev S_X10_beginOf : Nat → Nat → Bool := mkS [] []
abbrev S_X10_middleOf : Nat → Nat → Bool := mkS [] []
abbrev S_X10_finishOf : Nat → Nat → Bool := mkS [] []
abbrev S_X11_bounds : Nat → Nat → Bool := mkS [26, 27, 28, 29, 30, 31, 32, 33, 34, 35, 37, 55, 56, 57, 58, 59, 60, 61, 62, 63, 64, 65, 66, 67, 69, 70, 71] [(24, 3), (24, 12), (24, 14), (24, 16), (24, 17), (36, 7), (54, 16), (54, 17), (68, 6), (68, 7), (68, 8)]
abbrev S_X10_put_c2 : Nat → Nat → Bool := mkS [2] [(68, 9)]
abbrev S_X10_pushPart : Nat → Nat → Bool := mkS [69, 70] [(68, 6)]
abbrev S_X10_open_c2 : Nat → Nat → Bool := mkS [2, 69, 70] [(68, 6), (68, 9)]
abbrev S_X10_write_c2 : Nat → Nat → Bool := mkS [2, 69, 70] [(68, 6), (68, 9)]
abbrev S_X11_tell : Nat → Nat → Bool := mkS [2, 26, 27, 28, 29, 30, 31, 32, 33, 34, 35, 37, 55, 56, 57, 58, 59, 60, 61, 62, 63, 64, 65, 66, 67, 69, 70] [(0, 3), (24, 3), (24, 12), (24, 14), (24, 16), (24, 17), (36, 7), (54, 16), (54, 17), (68, 6), (68, 9)]
abbrev S_X11_octet : Nat → Nat → Bool := mkS [] []
abbrev S_X8_countPairs : Nat → Nat → Bool := mkS [] []
abbrev S_X8_countCase : Nat → Nat → Bool := mkS [] []
abbrev S_X8_countItem : Nat → Nat → Bool := mkS [] []
abbrev S_X8_countSpan : Nat → Nat → Bool := mkS [77, 78, 79, 83] []
abbrev S_X8_upTo : Nat → Nat → Bool := mkS [26, 27, 28, 29, 30, 31, 32, 33, 34, 35, 37, 77, 78, 79, 83] [(24, 3), (24, 12), (24, 14), (24, 16), (24, 17), (36, 7)]
abbrev S_X11_cheap : Nat → Nat → Bool := mkS [26, 27, 28, 29, 30, 31, 32, 33, 34, 35, 37, 77, 78, 79, 83] [(24, 3), (24, 12), (24, 14), (24, 16), (24, 17), (36, 7)]
abbrev S_X10_push_o : Nat → Nat → Bool := mkS [73, 74] [(72, 6)]
abbrev S_X10_pushTree_o : Nat → Nat → Bool := mkS [73, 74] [(72, 6)]
abbrev S_X10_follow_o : Nat → Nat → Bool := mkS [73, 74, 75] [(72, 6), (72, 7), (72, 8)]
abbrev S_X10_caseAt_o : Nat → Nat → Bool := mkS [] []
abbrev S_X10_alikeWith_c72 : Nat → Nat → Bool := mkS [] []
abbrev S_X11_alike : Nat → Nat → Bool := mkS [26, 27, 28, 29, 30, 31, 32, 33, 34, 35, 37, 55, 56, 57, 58, 59, 60, 61, 62, 63, 64, 65, 66, 67, 69, 70, 71, 73, 74, 75] [(24, 3), (24, 12), (24, 14), (24, 16), (24, 17), (36, 7), (54, 16), (54, 17), (68, 6), (68, 7), (68, 8), (72, 6), (72, 7), (72, 8)]
abbrev S_X1_leastOfCases_c39 : Nat → Nat → Bool := mkS [] []
abbrev S_X1_relax_c39 : Nat → Nat → Bool := mkS [39] []
abbrev S_X1_fill_c39 : Nat → Nat → Bool := mkS [39] []
abbrev S_X1_lowestWithout : Nat → Nat → Bool := mkS [26, 27, 28, 29, 30, 31, 32, 33, 34, 35, 39] [(24, 3), (24, 12), (24, 14), (24, 16), (24, 17)]
abbrev S_X11_without : Nat → Nat → Bool := mkS [26, 27, 28, 29, 30, 31, 32, 33, 34, 35, 39] [(24, 3), (24, 12), (24, 14), (24, 16), (24, 17)]
abbrev S_X11_heads : Nat → Nat → Bool := mkS [26, 27, 28, 29, 30, 31, 32, 33, 34, 35, 37] [(24, 3), (24, 12), (24, 14), (24, 16), (24, 17), (36, 7)]
abbrev S_J7_fill_53178_C_c82 : Nat → Nat → Bool := mkS [82] []
abbrev S_X5_choose : Nat → Nat → Bool := mkS [] [(80, 5), (80, 6), (80, 7), (80, 8)]
abbrev S_J7_fill_53178_C_c81 : Nat → Nat → Bool := mkS [81] []
abbrev S_X5_improve_c81 : Nat → Nat → Bool := mkS [81] []
abbrev S_X5_relax : Nat → Nat → Bool := mkS [81] []
abbrev S_X5_goToParts : Nat → Nat → Bool := mkS [81] []
abbrev S_X5_goDown : Nat → Nat → Bool := mkS [81] []
abbrev S_X5_partCost : Nat → Nat → Bool := mkS [] []
abbrev S_X5_improve_c82 : Nat → Nat → Bool := mkS [82] []
abbrev S_X5_tryLetter : Nat → Nat → Bool := mkS [82] []
abbrev S_X5_tryRule : Nat → Nat → Bool := mkS [82] []
abbrev S_X5_prepare : Nat → Nat → Bool := mkS [26, 27, 28, 29, 30, 31, 32, 33, 34, 35, 37, 81, 82] [(24, 3), (24, 12), (24, 14), (24, 16), (24, 17), (36, 7), (80, 5), (80, 6), (80, 7), (80, 8), (80, 9)]
abbrev S_X11_mends : Nat → Nat → Bool := mkS [26, 27, 28, 29, 30, 31, 32, 33, 34, 35, 37, 81, 82] [(24, 3), (24, 12), (24, 14), (24, 16), (24, 17), (36, 7), (80, 5), (80, 6), (80, 7), (80, 8), (80, 9)]
abbrev S_X11_mend : Nat → Nat → Bool := mkS [26, 27, 28, 29, 30, 31, 32, 33, 34, 35, 37, 81, 82] [(24, 3), (24, 12), (24, 14), (24, 16), (24, 17), (36, 7), (80, 5), (80, 6), (80, 7), (80, 8), (80, 9)]
abbrev S_X4_labelsOnRings : Nat → Nat → Bool := mkS [23] []
abbrev S_X11_rings : Nat → Nat → Bool := mkS [23] []
abbrev S_X4_labelBit : Nat → Nat → Bool := mkS [] []
abbrev S_X4_partsWithin : Nat → Nat → Bool := mkS [] []
abbrev S_X4_fruitfulLabels : Nat → Nat → Bool := mkS [] []
abbrev S_X4_rulesAlive : Nat → Nat → Bool := mkS [] []
abbrev S_X11_alive : Nat → Nat → Bool := mkS [] []
abbrev S_X12_feed : Nat → Nat → Bool := mkS [12, 13] [(0, 17)]
abbrev S_X12_in : Nat → Nat → Bool := mkS [] []
abbrev S_X12_end : Nat → Nat → Bool := mkS [] [(0, 17)]
abbrev S_X12_see : Nat → Nat → Bool := mkS [] []
abbrev S_X12_advance : Nat → Nat → Bool := mkS [] [(0, 20), (0, 21), (0, 22), (0, 23)]
abbrev S_X12_good : Nat → Nat → Bool := mkS [] []
abbrev S_X12_is_s8 : Nat → Nat → Bool := mkS [] []
abbrev S_X12_errs : Nat → Nat → Bool := mkS [] [(0, 24), (0, 25)]
abbrev S_X12_takes : Nat → Nat → Bool := mkS [] [(0, 20), (0, 21), (0, 22), (0, 23), (0, 24), (0, 25)]
abbrev S_X12_is_s9 : Nat → Nat → Bool := mkS [] []
abbrev S_X12_takesWord_s9 : Nat → Nat → Bool := mkS [] [(0, 20), (0, 21), (0, 22), (0, 23), (0, 24), (0, 25)]
abbrev S_X12_is_s10 : Nat → Nat → Bool := mkS [] []
abbrev S_X12_takesWord_s10 : Nat → Nat → Bool := mkS [] [(0, 20), (0, 21), (0, 22), (0, 23), (0, 24), (0, 25)]
abbrev S_X12_is_s11 : Nat → Nat → Bool := mkS [] []
abbrev S_X12_takesWord_s11 : Nat → Nat → Bool := mkS [] [(0, 20), (0, 21), (0, 22), (0, 23), (0, 24), (0, 25)]
abbrev S_X12_is_s12 : Nat → Nat → Bool := mkS [] []
abbrev S_X12_takesWord_s12 : Nat → Nat → Bool := mkS [] [(0, 20), (0, 21), (0, 22), (0, 23), (0, 24), (0, 25)]
abbrev S_X12_readTable : Nat → Nat → Bool := mkS [6, 7, 8, 9, 10] [(0, 20), (0, 21), (0, 22), (0, 23), (0, 24), (0, 25)]
abbrev S_X12_is_s13 : Nat → Nat → Bool := mkS [] []
abbrev S_X12_takesSign : Nat → Nat → Bool := mkS [] [(0, 20), (0, 21), (0, 22), (0, 23), (0, 24), (0, 25)]
abbrev S_X12_isPart : Nat → Nat → Bool := mkS [] []
abbrev S_X12_readPart : Nat → Nat → Bool := mkS [] [(0, 20), (0, 21), (0, 22), (0, 23), (0, 24), (0, 25)]
abbrev S_X12_is_s14 : Nat → Nat → Bool := mkS [] []
abbrev S_X12_is_s15 : Nat → Nat → Bool := mkS [] []
abbrev S_X12_readRule : Nat → Nat → Bool := mkS [1, 2, 3, 4, 5] [(0, 13), (0, 20), (0, 21), (0, 22), (0, 23), (0, 24), (0, 25)]
abbrev S_X12_grammar : Nat → Nat → Bool := mkS [1, 2, 3, 4, 5, 6, 7, 8, 9, 10] [(0, 1), (0, 2), (0, 13), (0, 17), (0, 19), (0, 20), (0, 21), (0, 22), (0, 23), (0, 24), (0, 25)]
abbrev S_X12_fault : Nat → Nat → Bool := mkS [] []
abbrev S_X12_say : Nat → Nat → Bool := mkS [11] [(0, 15), (0, 17)]
abbrev S_X12_isRule : Nat → Nat → Bool := mkS [] []
abbrev S_X12_rule : Nat → Nat → Bool := mkS [] []
abbrev S_X12_isElement : Nat → Nat → Bool := mkS [] []
abbrev S_X12_product2 : Nat → Nat → Bool := mkS [] []
abbrev S_X12_sum2 : Nat → Nat → Bool := mkS [] []
abbrev S_X12_table : Nat → Nat → Bool := mkS [] []
abbrev S_X12_drops : Nat → Nat → Bool := mkS [] [(0, 2)]
abbrev S_X12_prices : Nat → Nat → Bool := mkS [4] []
abbrev S_X12_elements : Nat → Nat → Bool := mkS [5] []
abbrev S_X12_isItem : Nat → Nat → Bool := mkS [] []
abbrev S_X12_isIn : Nat → Nat → Bool := mkS [] []
abbrev S_X12_item : Nat → Nat → Bool := mkS [] []
abbrev S_X12_fits : Nat → Nat → Bool := mkS [] []
abbrev S_X12_leastPart : Nat → Nat → Bool := mkS [] []
abbrev S_X12_lowers : Nat → Nat → Bool := mkS [15] []
abbrev S_X12_laysTwos : Nat → Nat → Bool := mkS [15] []
abbrev S_X12_laysSpan : Nat → Nat → Bool := mkS [15] []
abbrev S_X12_laysLeast : Nat → Nat → Bool := mkS [15] [(0, 28)]
abbrev S_X12_looks : Nat → Nat → Bool := mkS [14, 15] [(0, 27), (0, 28)]
abbrev S_X12_has : Nat → Nat → Bool := mkS [] []
abbrev S_X12_can : Nat → Nat → Bool := mkS [14, 15] [(0, 27), (0, 28)]
abbrev S_X12_least : Nat → Nat → Bool := mkS [14, 15] [(0, 27), (0, 28)]
abbrev S_X12_isSingle : Nat → Nat → Bool := mkS [] []
abbrev S_X12_ringsAt : Nat → Nat → Bool := mkS [19] []
abbrev S_X12_isEndlessPart : Nat → Nat → Bool := mkS [] []
abbrev S_X12_goesOn : Nat → Nat → Bool := mkS [] []
abbrev S_X12_laysEndlessSpan : Nat → Nat → Bool := mkS [16, 19] []
abbrev S_X12_laysEndless : Nat → Nat → Bool := mkS [16, 17, 19] []
abbrev S_X12_waysPart : Nat → Nat → Bool := mkS [17, 18] []
abbrev S_X12_plusGreat : Nat → Nat → Bool := mkS [] []
abbrev S_X12_timesGreat : Nat → Nat → Bool := mkS [] []
abbrev S_X12_waysItem : Nat → Nat → Bool := mkS [17, 18] []
abbrev S_X12_ways : Nat → Nat → Bool := mkS [14, 15, 16, 17, 18, 19] [(0, 27), (0, 28)]
abbrev S_X12_dearPart : Nat → Nat → Bool := mkS [] []
abbrev S_X12_lowersDear : Nat → Nat → Bool := mkS [20] []
abbrev S_X12_laysDear : Nat → Nat → Bool := mkS [20] []
abbrev S_X12_dearest : Nat → Nat → Bool := mkS [14, 15, 20] [(0, 27), (0, 28)]
abbrev S_X12_meetsPart : Nat → Nat → Bool := mkS [21] [(0, 36)]
abbrev S_X12_meets : Nat → Nat → Bool := mkS [21] [(0, 36)]
abbrev S_X12_used : Nat → Nat → Bool := mkS [14, 15, 21] [(0, 27), (0, 28), (0, 36)]
abbrev S_X12_span : Nat → Nat → Bool := mkS [] []
abbrev S_X12_rowOf : Nat → Nat → Bool := mkS [] []
abbrev S_X12_failsPart : Nat → Nat → Bool := mkS [] []
abbrev S_X12_sumPart : Nat → Nat → Bool := mkS [] []
abbrev S_X12_brings : Nat → Nat → Bool := mkS [24] []
abbrev S_X12_power : Nat → Nat → Bool := mkS [] []
abbrev S_X12_clears : Nat → Nat → Bool := mkS [24] []
abbrev S_X12_laysSums : Nat → Nat → Bool := mkS [22, 23, 24, 25] [(0, 41)]
abbrev S_X12_sum : Nat → Nat → Bool := mkS [14, 15, 22, 23, 24, 25] [(0, 27), (0, 28), (0, 41)]
abbrev S_X12_isLetterAt : Nat → Nat → Bool := mkS [] []
abbrev S_X12_valuePart : Nat → Nat → Bool := mkS [] []
abbrev S_X12_valueAnew : Nat → Nat → Bool := mkS [] []
abbrev S_X12_turnsOnce : Nat → Nat → Bool := mkS [26, 27] []
abbrev S_X12_settles : Nat → Nat → Bool := mkS [14, 15, 26, 27] [(0, 27), (0, 28), (0, 44)]
abbrev S_X12_value : Nat → Nat → Bool := mkS [14, 15, 26, 27] [(0, 27), (0, 28), (0, 44)]
abbrev S_X12_rounds : Nat → Nat → Bool := mkS [14, 15, 26, 27] [(0, 27), (0, 28), (0, 44)]
abbrev S_X12_keeps : Nat → Nat → Bool := mkS [] []
abbrev S_X12_keepsThree : Nat → Nat → Bool := mkS [] []
abbrev S_X12_holds : Nat → Nat → Bool := mkS [] []
abbrev S_X12_laws : Nat → Nat → Bool := mkS [14, 15, 26, 27] [(0, 27), (0, 28), (0, 44)]
abbrev S_X12_isAt : Nat → Nat → Bool := mkS [] []
abbrev S_X12_casesWith : Nat → Nat → Bool := mkS [] []
abbrev S_X12_casesOf : Nat → Nat → Bool := mkS [] []
abbrev S_X12_cases : Nat → Nat → Bool := mkS [14, 15] [(0, 27), (0, 28)]
abbrev S_X12_itemsMany : Nat → Nat → Bool := mkS [14, 15] [(0, 27), (0, 28)]
abbrev S_X12_order : Nat → Nat → Bool := mkS [] []
abbrev S_X12_settled : Nat → Nat → Bool := mkS [14, 15] [(0, 27), (0, 28)]
abbrev S_X12_isPlace : Nat → Nat → Bool := mkS [] []
abbrev S_X12_manyOf : Nat → Nat → Bool := mkS [] []
abbrev S_X12_nodeOf : Nat → Nat → Bool := mkS [] []
abbrev S_X12_costNode : Nat → Nat → Bool := mkS [] []
abbrev S_X12_stepsNode : Nat → Nat → Bool := mkS [] []
abbrev S_X12_deepNode : Nat → Nat → Bool := mkS [] []
abbrev S_X12_writes : Nat → Nat → Bool := mkS [28, 29, 30, 31, 32, 33, 34, 35, 36] []
abbrev S_X12_formOf : Nat → Nat → Bool := mkS [] []
abbrev S_X12_isAhead : Nat → Nat → Bool := mkS [] []
abbrev S_X12_takesNode : Nat → Nat → Bool := mkS [] [(0, 54), (0, 55)]
abbrev S_X12_comes : Nat → Nat → Bool := mkS [37, 38] [(0, 54), (0, 55)]
abbrev S_X12_laysTwoBest : Nat → Nat → Bool := mkS [28, 29, 30, 31, 32, 33, 34, 35, 36, 37, 38] [(0, 54), (0, 55)]
abbrev S_X12_firstPending : Nat → Nat → Bool := mkS [] []
abbrev S_X12_waits : Nat → Nat → Bool := mkS [39] [(0, 59)]
abbrev S_X12_laysBestSpan : Nat → Nat → Bool := mkS [28, 29, 30, 31, 32, 33, 34, 35, 36, 37, 38, 39] [(0, 54), (0, 55), (0, 59)]
abbrev S_X12_laysBest : Nat → Nat → Bool := mkS [14, 15, 28, 29, 30, 31, 32, 33, 34, 35, 36, 37, 38, 39] [(0, 27), (0, 28), (0, 54), (0, 55), (0, 59)]
abbrev S_X12_treeOf : Nat → Nat → Bool := mkS [] []
abbrev S_X12_best : Nat → Nat → Bool := mkS [14, 15, 28, 29, 30, 31, 32, 33, 34, 35, 36, 37, 38, 39] [(0, 27), (0, 28), (0, 54), (0, 55), (0, 59)]
abbrev S_X12_size : Nat → Nat → Bool := mkS [14, 15, 28, 29, 30, 31, 32, 33, 34, 35, 36, 37, 38, 39] [(0, 27), (0, 28), (0, 54), (0, 55), (0, 59)]
abbrev S_X12_stepOf : Nat → Nat → Bool := mkS [] []
abbrev S_X12_step : Nat → Nat → Bool := mkS [14, 15, 28, 29, 30, 31, 32, 33, 34, 35, 36, 37, 38, 39] [(0, 27), (0, 28), (0, 54), (0, 55), (0, 59)]
abbrev S_X12_start : Nat → Nat → Bool := mkS [] []
abbrev S_X12_bounds : Nat → Nat → Bool := mkS [14, 15, 28, 29, 30, 31, 32, 33, 34, 35, 36, 37, 38, 39] [(0, 27), (0, 28), (0, 54), (0, 55), (0, 59)]
abbrev S_X12_areAlike : Nat → Nat → Bool := mkS [] []
abbrev S_X12_alike : Nat → Nat → Bool := mkS [14, 15, 28, 29, 30, 31, 32, 33, 34, 35, 36, 37, 38, 39] [(0, 27), (0, 28), (0, 54), (0, 55), (0, 59)]
abbrev S_X12_puts : Nat → Nat → Bool := mkS [40] [(0, 61)]
abbrev S_X12_tellsPart : Nat → Nat → Bool := mkS [40] [(0, 61)]
abbrev S_X12_tells : Nat → Nat → Bool := mkS [40] [(0, 61)]
abbrev S_X12_tell : Nat → Nat → Bool := mkS [14, 15, 28, 29, 30, 31, 32, 33, 34, 35, 36, 37, 38, 39, 40] [(0, 27), (0, 28), (0, 54), (0, 55), (0, 59), (0, 61)]
abbrev S_X12_octet : Nat → Nat → Bool := mkS [] []
abbrev S_X12_cheapPart : Nat → Nat → Bool := mkS [] []
abbrev S_X12_cheapTwos : Nat → Nat → Bool := mkS [] []
abbrev S_X12_laysCheap : Nat → Nat → Bool := mkS [41] []
abbrev S_X12_cheap : Nat → Nat → Bool := mkS [14, 15, 41] [(0, 27), (0, 28)]
abbrev S_X12_leastOfAll : Nat → Nat → Bool := mkS [] []
abbrev S_X12_without : Nat → Nat → Bool := mkS [14, 15] [(0, 27), (0, 28)]
abbrev S_X12_heads : Nat → Nat → Bool := mkS [14, 15] [(0, 27), (0, 28)]
abbrev S_X12_laysMends : Nat → Nat → Bool := mkS [14, 15] [(0, 27), (0, 28), (0, 63), (0, 64), (0, 65)]
abbrev S_X12_mends : Nat → Nat → Bool := mkS [14, 15] [(0, 27), (0, 28), (0, 63), (0, 64), (0, 65)]
abbrev S_X12_mend : Nat → Nat → Bool := mkS [14, 15] [(0, 27), (0, 28), (0, 63), (0, 64), (0, 65)]
abbrev S_X12_rings : Nat → Nat → Bool := mkS [19] [(0, 28)]
abbrev S_X12_isOf : Nat → Nat → Bool := mkS [] []
abbrev S_X12_alive : Nat → Nat → Bool := mkS [] [(0, 28)]
abbrev S_J13_bitCount_95d88_R : Nat → Nat → Bool := mkS [] []
abbrev S_X12_count : Nat → Nat → Bool := mkS [14, 15] [(0, 27), (0, 28)]
set_option maxHeartbeats 1000000 in
theorem mf_X11_putFour_l3 {Q Q' : Int → St → Prop} {σ0 : St} (hq : ∀ (r : Int) (σ1 : St), Q r σ1 → Fr S_X11_putFour σ0 σ1 → Q' r σ1) : ∀ (n : Nat) (x1 : Int) (x2 : Int) (σ : St), Fr S_X11_putFour σ0 σ → wp_X11_putFour_l3 Q n x1 x2 σ → wp_X11_putFour_l3 Q' n x1 x2 σ := by
  intro n
  induction n with
  | zero => intro _ _ _ _ h; exact h.elim
  | succ n ih =>
    intro x1 x2 σ f0 h
    unfold wp_X11_putFour_l3 at h ⊢
    refine ⟨fun hc => ?_, fun hc => ?_⟩
    · replace h := h.1 hc
      exact hq _ _ h f0
    · replace h := h.2 hc
      refine ⟨fun hc => ?_, fun hc => ?_⟩
      · replace h := h.1 hc
        exact hq _ _ h f0
      · replace h := h.2 hc
        refine ⟨h.1, fun σ1 eσ1 => ?_⟩; replace h := h.2 σ1 eσ1; have fσ1 : Fr S_X11_putFour σ0 σ1 := by rw [eσ1]; exact f0.up rfl
        intro σ2 eσ2; replace h := h σ2 eσ2; have fσ2 : Fr S_X11_putFour σ0 σ2 := by rw [eσ2]; exact fσ1.up rfl
        intro v3 ev3; replace h := h v3 ev3
        exact ih _ _ _ fσ2 h
set_option maxHeartbeats 1000000 in
theorem mf_X11_putFour {Q Q' : Int → St → Prop} {σ0 : St} (hq : ∀ (r : Int) (σ1 : St), Q r σ1 → Fr S_X11_putFour σ0 σ1 → Q' r σ1) {x1 : Int} {σ : St} (f0 : Fr S_X11_putFour σ0 σ) (h : wp_X11_putFour x1 σ Q) : wp_X11_putFour x1 σ Q' := by
  unfold wp_X11_putFour at h ⊢
  exact mf_X11_putFour_l3 hq bigN _ _ _ f0 h
set_option maxHeartbeats 1000000 in
theorem mf_X11_feed {Q Q' : Int → St → Prop} {σ0 : St} (hq : ∀ (r : Int) (σ1 : St), Q r σ1 → Fr S_X11_feed σ0 σ1 → Q' r σ1) {x1 x2 x3 x4 x5 : Int} {σ : St} (f0 : Fr S_X11_feed σ0 σ) (h : wp_X11_feed x1 x2 x3 x4 x5 σ Q) : wp_X11_feed x1 x2 x3 x4 x5 σ Q' := by
  unfold wp_X11_feed at h ⊢
  refine ⟨fun hc => ?_, fun hc => ?_⟩
  · replace h := h.1 hc
    refine mf_X11_putFour (fun r1 σ2 h gσ2 => ?_) Fr.rf h
    have fσ2 : Fr S_X11_feed σ0 σ2 := f0.tr gσ2 (mkS_sub (by decide) (by decide))
    refine mf_X11_putFour (fun r3 σ4 h gσ4 => ?_) Fr.rf h
    have fσ4 : Fr S_X11_feed σ0 σ4 := fσ2.tr gσ4 (mkS_sub (by decide) (by decide))
    refine mf_X11_putFour (fun r5 σ6 h gσ6 => ?_) Fr.rf h
    have fσ6 : Fr S_X11_feed σ0 σ6 := fσ4.tr gσ6 (mkS_sub (by decide) (by decide))
    refine mf_X11_putFour (fun r7 σ8 h gσ8 => ?_) Fr.rf h
    have fσ8 : Fr S_X11_feed σ0 σ8 := fσ6.tr gσ8 (mkS_sub (by decide) (by decide))
    refine mf_X11_putFour (fun r9 σ10 h gσ10 => ?_) Fr.rf h
    have fσ10 : Fr S_X11_feed σ0 σ10 := fσ8.tr gσ10 (mkS_sub (by decide) (by decide))
    exact hq _ _ h fσ10
  · replace h := h.2 hc
    exact hq _ _ h f0
set_option maxHeartbeats 1000000 in
theorem mf_X11_end {Q Q' : Int → St → Prop} {σ0 : St} (hq : ∀ (r : Int) (σ1 : St), Q r σ1 → Fr S_X11_end σ0 σ1 → Q' r σ1) {x1 : Int} {σ : St} (f0 : Fr S_X11_end σ0 σ) (h : wp_X11_end x1 σ Q) : wp_X11_end x1 σ Q' := by
  unfold wp_X11_end at h ⊢
  refine ⟨fun hc => ?_, fun hc => ?_⟩
  · replace h := h.1 hc
    exact hq _ _ h f0
  · replace h := h.2 hc
    refine ⟨fun hc => ?_, fun hc => ?_⟩
    · replace h := h.1 hc
      intro σ1 eσ1; replace h := h σ1 eσ1; have fσ1 : Fr S_X11_end σ0 σ1 := by rw [eσ1]; exact f0.up rfl
      exact hq _ _ h fσ1
    · replace h := h.2 hc
      exact hq _ _ h f0
set_option maxHeartbeats 1000000 in
theorem mf_X4_clear_d_b57 {Q Q' : Int → St → Prop} {σ0 : St} (hq : ∀ (r : Int) (σ1 : St), Q r σ1 → Fr S_X4_clear_d σ0 σ1 → Q' r σ1) {K22 K22' : Int → St → Prop} (hK22 : ∀ (x1 : Int) (σ : St), Fr S_X4_clear_d σ0 σ → K22 x1 σ → K22' x1 σ) {x1 s0 s1 : Int} {σ : St} (f0 : Fr S_X4_clear_d σ0 σ) (h : wp_X4_clear_d_b57 Q K22 x1 s0 s1 σ) : wp_X4_clear_d_b57 Q' K22' x1 s0 s1 σ := by
  unfold wp_X4_clear_d_b57 at h ⊢
  refine ⟨h.1, fun σ6 eσ6 => ?_⟩; replace h := h.2 σ6 eσ6; have fσ6 : Fr S_X4_clear_d σ0 σ6 := by rw [eσ6]; exact f0.up rfl
  intro v7 ev7; replace h := h v7 ev7
  exact hK22 _ _ fσ6 h
set_option maxHeartbeats 1000000 in
theorem mf_X4_clear_d_b41 {Q Q' : Int → St → Prop} {σ0 : St} (hq : ∀ (r : Int) (σ1 : St), Q r σ1 → Fr S_X4_clear_d σ0 σ1 → Q' r σ1) {K22 K22' : Int → St → Prop} (hK22 : ∀ (x1 : Int) (σ : St), Fr S_X4_clear_d σ0 σ → K22 x1 σ → K22' x1 σ) {x1 s0 s1 : Int} {σ : St} (f0 : Fr S_X4_clear_d σ0 σ) (h : wp_X4_clear_d_b41 Q K22 x1 s0 s1 σ) : wp_X4_clear_d_b41 Q' K22' x1 s0 s1 σ := by
  unfold wp_X4_clear_d_b41 at h ⊢
  refine ⟨h.1, fun σ5 eσ5 => ?_⟩; replace h := h.2 σ5 eσ5; have fσ5 : Fr S_X4_clear_d σ0 σ5 := by rw [eσ5]; exact f0.up rfl
  refine ⟨fun hc => ?_, fun hc => ?_⟩
  · replace h := h.1 hc
    exact mf_X4_clear_d_b57 hq hK22 fσ5 h
  · replace h := h.2 hc
    exact mf_X4_clear_d_b57 hq hK22 fσ5 h
set_option maxHeartbeats 1000000 in
theorem mf_X4_clear_d_l22 {Q Q' : Int → St → Prop} {σ0 : St} (hq : ∀ (r : Int) (σ1 : St), Q r σ1 → Fr S_X4_clear_d σ0 σ1 → Q' r σ1) : ∀ (n : Nat) (x1 : Int) (σ : St), Fr S_X4_clear_d σ0 σ → wp_X4_clear_d_l22 Q n x1 σ → wp_X4_clear_d_l22 Q' n x1 σ := by
  intro n
  induction n with
  | zero => intro _ _ _ h; exact h.elim
  | succ n ih =>
    intro x1 σ f0 h
    unfold wp_X4_clear_d_l22 at h ⊢
    refine ⟨fun hc => ?_, fun hc => ?_⟩
    · replace h := h.1 hc
      exact hq _ _ h f0
    · replace h := h.2 hc
      refine ⟨fun hc => ?_, fun hc => ?_⟩
      · replace h := h.1 hc
        exact mf_X4_clear_d_b41 hq ih f0 h
      · replace h := h.2 hc
        exact mf_X4_clear_d_b41 hq ih f0 h
set_option maxHeartbeats 1000000 in
theorem mf_X4_clear_d {Q Q' : Int → St → Prop} {σ0 : St} (hq : ∀ (r : Int) (σ1 : St), Q r σ1 → Fr S_X4_clear_d σ0 σ1 → Q' r σ1) {σ : St} (f0 : Fr S_X4_clear_d σ0 σ) (h : wp_X4_clear_d  σ Q) : wp_X4_clear_d  σ Q' := by
  unfold wp_X4_clear_d at h ⊢
  intro σ1 eσ1; replace h := h σ1 eσ1; have fσ1 : Fr S_X4_clear_d σ0 σ1 := by rw [eσ1]; exact f0.up rfl
  intro σ2 eσ2; replace h := h σ2 eσ2; have fσ2 : Fr S_X4_clear_d σ0 σ2 := by rw [eσ2]; exact fσ1.up rfl
  intro σ3 eσ3; replace h := h σ3 eσ3; have fσ3 : Fr S_X4_clear_d σ0 σ3 := by rw [eσ3]; exact fσ2.up rfl
  intro σ4 eσ4; replace h := h σ4 eσ4; have fσ4 : Fr S_X4_clear_d σ0 σ4 := by rw [eσ4]; exact fσ3.up rfl
  exact mf_X4_clear_d_l22 hq bigN _ _ fσ4 h
set_option maxHeartbeats 1000000 in
theorem mf_X6_isBlank_b12 {Q Q' : Int → St → Prop} {σ0 : St} (hq : ∀ (r : Int) (σ1 : St), Q r σ1 → Fr S_X6_isBlank σ0 σ1 → Q' r σ1) {σ : St} (f0 : Fr S_X6_isBlank σ0 σ) (h : wp_X6_isBlank_b12 Q  σ) : wp_X6_isBlank_b12 Q'  σ := by
  unfold wp_X6_isBlank_b12 at h ⊢
  exact hq _ _ h f0
set_option maxHeartbeats 1000000 in
theorem mf_X6_isBlank {Q Q' : Int → St → Prop} {σ0 : St} (hq : ∀ (r : Int) (σ1 : St), Q r σ1 → Fr S_X6_isBlank σ0 σ1 → Q' r σ1) {x0 : Int} {σ : St} (f0 : Fr S_X6_isBlank σ0 σ) (h : wp_X6_isBlank x0 σ Q) : wp_X6_isBlank x0 σ Q' := by
  unfold wp_X6_isBlank at h ⊢
  refine ⟨fun hc => ?_, fun hc => ?_⟩
  · replace h := h.1 hc
    exact mf_X6_isBlank_b12 hq f0 h
  · replace h := h.2 hc
    refine ⟨fun hc => ?_, fun hc => ?_⟩
    · replace h := h.1 hc
      exact hq _ _ h f0
    · replace h := h.2 hc
      exact mf_X6_isBlank_b12 hq f0 h
set_option maxHeartbeats 1000000 in
theorem mf_X6_isSmall_b16 {Q Q' : Int → St → Prop} {σ0 : St} (hq : ∀ (r : Int) (σ1 : St), Q r σ1 → Fr S_X6_isSmall σ0 σ1 → Q' r σ1) {σ : St} (f0 : Fr S_X6_isSmall σ0 σ) (h : wp_X6_isSmall_b16 Q  σ) : wp_X6_isSmall_b16 Q'  σ := by
  unfold wp_X6_isSmall_b16 at h ⊢
  exact hq _ _ h f0
set_option maxHeartbeats 1000000 in
theorem mf_X6_isSmall {Q Q' : Int → St → Prop} {σ0 : St} (hq : ∀ (r : Int) (σ1 : St), Q r σ1 → Fr S_X6_isSmall σ0 σ1 → Q' r σ1) {x0 : Int} {σ : St} (f0 : Fr S_X6_isSmall σ0 σ) (h : wp_X6_isSmall x0 σ Q) : wp_X6_isSmall x0 σ Q' := by
  unfold wp_X6_isSmall at h ⊢
  refine ⟨fun hc => ?_, fun hc => ?_⟩
  · replace h := h.1 hc
    exact mf_X6_isSmall_b16 hq f0 h
  · replace h := h.2 hc
    refine ⟨fun hc => ?_, fun hc => ?_⟩
    · replace h := h.1 hc
      exact mf_X6_isSmall_b16 hq f0 h
    · replace h := h.2 hc
      exact hq _ _ h f0
set_option maxHeartbeats 1000000 in
theorem mf_X6_isDigit_b16 {Q Q' : Int → St → Prop} {σ0 : St} (hq : ∀ (r : Int) (σ1 : St), Q r σ1 → Fr S_X6_isDigit σ0 σ1 → Q' r σ1) {σ : St} (f0 : Fr S_X6_isDigit σ0 σ) (h : wp_X6_isDigit_b16 Q  σ) : wp_X6_isDigit_b16 Q'  σ := by
  unfold wp_X6_isDigit_b16 at h ⊢
  exact hq _ _ h f0
set_option maxHeartbeats 1000000 in
theorem mf_X6_isDigit {Q Q' : Int → St → Prop} {σ0 : St} (hq : ∀ (r : Int) (σ1 : St), Q r σ1 → Fr S_X6_isDigit σ0 σ1 → Q' r σ1) {x0 : Int} {σ : St} (f0 : Fr S_X6_isDigit σ0 σ) (h : wp_X6_isDigit x0 σ Q) : wp_X6_isDigit x0 σ Q' := by
  unfold wp_X6_isDigit at h ⊢
  refine ⟨fun hc => ?_, fun hc => ?_⟩
  · replace h := h.1 hc
    exact mf_X6_isDigit_b16 hq f0 h
  · replace h := h.2 hc
    refine ⟨fun hc => ?_, fun hc => ?_⟩
    · replace h := h.1 hc
      exact mf_X6_isDigit_b16 hq f0 h
    · replace h := h.2 hc
      exact hq _ _ h f0
set_option maxHeartbeats 1000000 in
theorem mf_X6_advance_l91 {Q Q' : Int → St → Prop} {σ0 : St} (hq : ∀ (r : Int) (σ1 : St), Q r σ1 → Fr S_X6_advance σ0 σ1 → Q' r σ1) : ∀ (n : Nat) (σ : St), Fr S_X6_advance σ0 σ → wp_X6_advance_l91 Q n  σ → wp_X6_advance_l91 Q' n  σ := by
  intro n
  induction n with
  | zero => intro _ _ h; exact h.elim
  | succ n ih =>
    intro σ f0 h
    unfold wp_X6_advance_l91 at h ⊢
    refine ⟨fun hc => ?_, fun hc => ?_⟩
    · replace h := h.1 hc
      exact hq _ _ h f0
    · replace h := h.2 hc
      refine ⟨h.1, ?_⟩; replace h := h.2
      refine mf_X6_isSmall (fun r19 σ20 h gσ20 => ?_) Fr.rf h
      have fσ20 : Fr S_X6_advance σ0 σ20 := f0.tr gσ20 (mkS_sub (by decide) (by decide))
      refine ⟨fun hc => ?_, fun hc => ?_⟩
      · replace h := h.1 hc
        exact hq _ _ h fσ20
      · replace h := h.2 hc
        intro σ21 eσ21; replace h := h σ21 eσ21; have fσ21 : Fr S_X6_advance σ0 σ21 := by rw [eσ21]; exact fσ20.up rfl
        exact ih  _ fσ21 h
set_option maxHeartbeats 1000000 in
theorem mf_X6_advance_l150 {Q Q' : Int → St → Prop} {σ0 : St} (hq : ∀ (r : Int) (σ1 : St), Q r σ1 → Fr S_X6_advance σ0 σ1 → Q' r σ1) : ∀ (n : Nat) (σ : St), Fr S_X6_advance σ0 σ → wp_X6_advance_l150 Q n  σ → wp_X6_advance_l150 Q' n  σ := by
  intro n
  induction n with
  | zero => intro _ _ h; exact h.elim
  | succ n ih =>
    intro σ f0 h
    unfold wp_X6_advance_l150 at h ⊢
    refine ⟨fun hc => ?_, fun hc => ?_⟩
    · replace h := h.1 hc
      exact hq _ _ h f0
    · replace h := h.2 hc
      refine ⟨h.1, ?_⟩; replace h := h.2
      refine mf_X6_isDigit (fun r15 σ16 h gσ16 => ?_) Fr.rf h
      have fσ16 : Fr S_X6_advance σ0 σ16 := f0.tr gσ16 (mkS_sub (by decide) (by decide))
      refine ⟨fun hc => ?_, fun hc => ?_⟩
      · replace h := h.1 hc
        exact hq _ _ h fσ16
      · replace h := h.2 hc
        refine ⟨h.1, ?_⟩; replace h := h.2
        intro σ17 eσ17; replace h := h σ17 eσ17; have fσ17 : Fr S_X6_advance σ0 σ17 := by rw [eσ17]; exact fσ16.up rfl
        intro σ18 eσ18; replace h := h σ18 eσ18; have fσ18 : Fr S_X6_advance σ0 σ18 := by rw [eσ18]; exact fσ17.up rfl
        exact ih  _ fσ18 h
set_option maxHeartbeats 1000000 in
theorem mf_X6_advance_b39 {Q Q' : Int → St → Prop} {σ0 : St} (hq : ∀ (r : Int) (σ1 : St), Q r σ1 → Fr S_X6_advance σ0 σ1 → Q' r σ1) {σ : St} (f0 : Fr S_X6_advance σ0 σ) (h : wp_X6_advance_b39 Q  σ) : wp_X6_advance_b39 Q'  σ := by
  unfold wp_X6_advance_b39 at h ⊢
  intro σ4 eσ4; replace h := h σ4 eσ4; have fσ4 : Fr S_X6_advance σ0 σ4 := by rw [eσ4]; exact f0.up rfl
  intro σ5 eσ5; replace h := h σ5 eσ5; have fσ5 : Fr S_X6_advance σ0 σ5 := by rw [eσ5]; exact fσ4.up rfl
  refine ⟨fun hc => ?_, fun hc => ?_⟩
  · replace h := h.1 hc
    refine ⟨h.1, ?_⟩; replace h := h.2
    refine mf_X6_isSmall (fun r6 σ7 h gσ7 => ?_) Fr.rf h
    have fσ7 : Fr S_X6_advance σ0 σ7 := fσ5.tr gσ7 (mkS_sub (by decide) (by decide))
    refine ⟨fun hc => ?_, fun hc => ?_⟩
    · replace h := h.1 hc
      refine ⟨h.1, ?_⟩; replace h := h.2
      refine mf_X6_isDigit (fun r8 σ9 h gσ9 => ?_) Fr.rf h
      have fσ9 : Fr S_X6_advance σ0 σ9 := fσ7.tr gσ9 (mkS_sub (by decide) (by decide))
      refine ⟨fun hc => ?_, fun hc => ?_⟩
      · replace h := h.1 hc
        intro σ10 eσ10; replace h := h σ10 eσ10; have fσ10 : Fr S_X6_advance σ0 σ10 := by rw [eσ10]; exact fσ9.up rfl
        intro σ11 eσ11; replace h := h σ11 eσ11; have fσ11 : Fr S_X6_advance σ0 σ11 := by rw [eσ11]; exact fσ10.up rfl
        exact hq _ _ h fσ11
      · replace h := h.2 hc
        intro σ12 eσ12; replace h := h σ12 eσ12; have fσ12 : Fr S_X6_advance σ0 σ12 := by rw [eσ12]; exact fσ9.up rfl
        exact mf_X6_advance_l150 hq bigN  _ fσ12 h
    · replace h := h.2 hc
      intro σ13 eσ13; replace h := h σ13 eσ13; have fσ13 : Fr S_X6_advance σ0 σ13 := by rw [eσ13]; exact fσ7.up rfl
      exact mf_X6_advance_l91 hq bigN  _ fσ13 h
  · replace h := h.2 hc
    intro σ14 eσ14; replace h := h σ14 eσ14; have fσ14 : Fr S_X6_advance σ0 σ14 := by rw [eσ14]; exact fσ5.up rfl
    exact hq _ _ h fσ14
set_option maxHeartbeats 1000000 in
theorem mf_X6_advance_l0 {Q Q' : Int → St → Prop} {σ0 : St} (hq : ∀ (r : Int) (σ1 : St), Q r σ1 → Fr S_X6_advance σ0 σ1 → Q' r σ1) : ∀ (n : Nat) (σ : St), Fr S_X6_advance σ0 σ → wp_X6_advance_l0 Q n  σ → wp_X6_advance_l0 Q' n  σ := by
  intro n
  induction n with
  | zero => intro _ _ h; exact h.elim
  | succ n ih =>
    intro σ f0 h
    unfold wp_X6_advance_l0 at h ⊢
    refine ⟨fun hc => ?_, fun hc => ?_⟩
    · replace h := h.1 hc
      exact mf_X6_advance_b39 hq f0 h
    · replace h := h.2 hc
      refine ⟨h.1, ?_⟩; replace h := h.2
      refine mf_X6_isBlank (fun r1 σ2 h gσ2 => ?_) Fr.rf h
      have fσ2 : Fr S_X6_advance σ0 σ2 := f0.tr gσ2 (mkS_sub (by decide) (by decide))
      refine ⟨fun hc => ?_, fun hc => ?_⟩
      · replace h := h.1 hc
        exact mf_X6_advance_b39 hq fσ2 h
      · replace h := h.2 hc
        intro σ3 eσ3; replace h := h σ3 eσ3; have fσ3 : Fr S_X6_advance σ0 σ3 := by rw [eσ3]; exact fσ2.up rfl
        exact ih  _ fσ3 h
set_option maxHeartbeats 1000000 in
theorem mf_X6_advance {Q Q' : Int → St → Prop} {σ0 : St} (hq : ∀ (r : Int) (σ1 : St), Q r σ1 → Fr S_X6_advance σ0 σ1 → Q' r σ1) {σ : St} (f0 : Fr S_X6_advance σ0 σ) (h : wp_X6_advance  σ Q) : wp_X6_advance  σ Q' := by
  unfold wp_X6_advance at h ⊢
  exact mf_X6_advance_l0 hq bigN  _ f0 h
set_option maxHeartbeats 1000000 in
theorem mf_X6_isWord_s0_l28 {Q Q' : Int → St → Prop} {σ0 : St} (hq : ∀ (r : Int) (σ1 : St), Q r σ1 → Fr S_X6_isWord_s0 σ0 σ1 → Q' r σ1) : ∀ (n : Nat) (x2 : Int) (σ : St), Fr S_X6_isWord_s0 σ0 σ → wp_X6_isWord_s0_l28 Q n x2 σ → wp_X6_isWord_s0_l28 Q' n x2 σ := by
  intro n
  induction n with
  | zero => intro _ _ _ h; exact h.elim
  | succ n ih =>
    intro x2 σ f0 h
    unfold wp_X6_isWord_s0_l28 at h ⊢
    refine ⟨fun hc => ?_, fun hc => ?_⟩
    · replace h := h.1 hc
      exact hq _ _ h f0
    · replace h := h.2 hc
      refine ⟨h.1, ?_⟩; replace h := h.2
      refine ⟨h.1, ?_⟩; replace h := h.2
      refine ⟨fun hc => ?_, fun hc => ?_⟩
      · replace h := h.1 hc
        intro v1 ev1; replace h := h v1 ev1
        exact ih _ _ f0 h
      · replace h := h.2 hc
        exact hq _ _ h f0
set_option maxHeartbeats 1000000 in
theorem mf_X6_isWord_s0 {Q Q' : Int → St → Prop} {σ0 : St} (hq : ∀ (r : Int) (σ1 : St), Q r σ1 → Fr S_X6_isWord_s0 σ0 σ1 → Q' r σ1) {σ : St} (f0 : Fr S_X6_isWord_s0 σ0 σ) (h : wp_X6_isWord_s0  σ Q) : wp_X6_isWord_s0  σ Q' := by
  unfold wp_X6_isWord_s0 at h ⊢
  refine ⟨fun hc => ?_, fun hc => ?_⟩
  · replace h := h.1 hc
    exact hq _ _ h f0
  · replace h := h.2 hc
    refine ⟨fun hc => ?_, fun hc => ?_⟩
    · replace h := h.1 hc
      exact mf_X6_isWord_s0_l28 hq bigN _ _ f0 h
    · replace h := h.2 hc
      exact hq _ _ h f0
set_option maxHeartbeats 1000000 in
theorem mf_X6_isWord_s3_l28 {Q Q' : Int → St → Prop} {σ0 : St} (hq : ∀ (r : Int) (σ1 : St), Q r σ1 → Fr S_X6_isWord_s3 σ0 σ1 → Q' r σ1) : ∀ (n : Nat) (x2 : Int) (σ : St), Fr S_X6_isWord_s3 σ0 σ → wp_X6_isWord_s3_l28 Q n x2 σ → wp_X6_isWord_s3_l28 Q' n x2 σ := by
  intro n
  induction n with
  | zero => intro _ _ _ h; exact h.elim
  | succ n ih =>
    intro x2 σ f0 h
    unfold wp_X6_isWord_s3_l28 at h ⊢
    refine ⟨fun hc => ?_, fun hc => ?_⟩
    · replace h := h.1 hc
      exact hq _ _ h f0
    · replace h := h.2 hc
      refine ⟨h.1, ?_⟩; replace h := h.2
      refine ⟨h.1, ?_⟩; replace h := h.2
      refine ⟨fun hc => ?_, fun hc => ?_⟩
      · replace h := h.1 hc
        intro v1 ev1; replace h := h v1 ev1
        exact ih _ _ f0 h
      · replace h := h.2 hc
        exact hq _ _ h f0
set_option maxHeartbeats 1000000 in
theorem mf_X6_isWord_s3 {Q Q' : Int → St → Prop} {σ0 : St} (hq : ∀ (r : Int) (σ1 : St), Q r σ1 → Fr S_X6_isWord_s3 σ0 σ1 → Q' r σ1) {σ : St} (f0 : Fr S_X6_isWord_s3 σ0 σ) (h : wp_X6_isWord_s3  σ Q) : wp_X6_isWord_s3  σ Q' := by
  unfold wp_X6_isWord_s3 at h ⊢
  refine ⟨fun hc => ?_, fun hc => ?_⟩
  · replace h := h.1 hc
    exact hq _ _ h f0
  · replace h := h.2 hc
    refine ⟨fun hc => ?_, fun hc => ?_⟩
    · replace h := h.1 hc
      exact mf_X6_isWord_s3_l28 hq bigN _ _ f0 h
    · replace h := h.2 hc
      exact hq _ _ h f0
set_option maxHeartbeats 1000000 in
theorem mf_X6_fail {Q Q' : Int → St → Prop} {σ0 : St} (hq : ∀ (r : Int) (σ1 : St), Q r σ1 → Fr S_X6_fail σ0 σ1 → Q' r σ1) {x1 : Int} {σ : St} (f0 : Fr S_X6_fail σ0 σ) (h : wp_X6_fail x1 σ Q) : wp_X6_fail x1 σ Q' := by
  unfold wp_X6_fail at h ⊢
  refine ⟨fun hc => ?_, fun hc => ?_⟩
  · replace h := h.1 hc
    exact hq _ _ h f0
  · replace h := h.2 hc
    intro σ1 eσ1; replace h := h σ1 eσ1; have fσ1 : Fr S_X6_fail σ0 σ1 := by rw [eσ1]; exact f0.up rfl
    intro σ2 eσ2; replace h := h σ2 eσ2; have fσ2 : Fr S_X6_fail σ0 σ2 := by rw [eσ2]; exact fσ1.up rfl
    exact hq _ _ h fσ2
set_option maxHeartbeats 1000000 in
theorem mf_X6_readNumber_b52 {Q Q' : Int → St → Prop} {σ0 : St} (hq : ∀ (r : Int) (σ1 : St), Q r σ1 → Fr S_X6_readNumber σ0 σ1 → Q' r σ1) {s0 : Int} {σ : St} (f0 : Fr S_X6_readNumber σ0 σ) (h : wp_X6_readNumber_b52 Q s0 σ) : wp_X6_readNumber_b52 Q' s0 σ := by
  unfold wp_X6_readNumber_b52 at h ⊢
  refine mf_X6_advance (fun r5 σ6 h gσ6 => ?_) Fr.rf h
  have fσ6 : Fr S_X6_readNumber σ0 σ6 := f0.tr gσ6 (mkS_sub (by decide) (by decide))
  exact hq _ _ h fσ6
set_option maxHeartbeats 1000000 in
theorem mf_X6_readNumber_b37 {Q Q' : Int → St → Prop} {σ0 : St} (hq : ∀ (r : Int) (σ1 : St), Q r σ1 → Fr S_X6_readNumber σ0 σ1 → Q' r σ1) {σ : St} (f0 : Fr S_X6_readNumber σ0 σ) (h : wp_X6_readNumber_b37 Q  σ) : wp_X6_readNumber_b37 Q'  σ := by
  unfold wp_X6_readNumber_b37 at h ⊢
  refine ⟨fun hc => ?_, fun hc => ?_⟩
  · replace h := h.1 hc
    exact mf_X6_readNumber_b52 hq f0 h
  · replace h := h.2 hc
    exact mf_X6_readNumber_b52 hq f0 h
set_option maxHeartbeats 1000000 in
theorem mf_X6_readNumber_b32 {Q Q' : Int → St → Prop} {σ0 : St} (hq : ∀ (r : Int) (σ1 : St), Q r σ1 → Fr S_X6_readNumber σ0 σ1 → Q' r σ1) {σ : St} (f0 : Fr S_X6_readNumber σ0 σ) (h : wp_X6_readNumber_b32 Q  σ) : wp_X6_readNumber_b32 Q'  σ := by
  unfold wp_X6_readNumber_b32 at h ⊢
  refine mf_X6_fail (fun r3 σ4 h gσ4 => ?_) Fr.rf h
  have fσ4 : Fr S_X6_readNumber σ0 σ4 := f0.tr gσ4 (mkS_sub (by decide) (by decide))
  exact mf_X6_readNumber_b37 hq fσ4 h
set_option maxHeartbeats 1000000 in
theorem mf_X6_readNumber {Q Q' : Int → St → Prop} {σ0 : St} (hq : ∀ (r : Int) (σ1 : St), Q r σ1 → Fr S_X6_readNumber σ0 σ1 → Q' r σ1) {x1 x2 : Int} {σ : St} (f0 : Fr S_X6_readNumber σ0 σ) (h : wp_X6_readNumber x1 x2 σ Q) : wp_X6_readNumber x1 x2 σ Q' := by
  unfold wp_X6_readNumber at h ⊢
  refine ⟨fun hc => ?_, fun hc => ?_⟩
  · replace h := h.1 hc
    refine ⟨fun hc => ?_, fun hc => ?_⟩
    · replace h := h.1 hc
      exact mf_X6_readNumber_b32 hq f0 h
    · replace h := h.2 hc
      refine ⟨fun hc => ?_, fun hc => ?_⟩
      · replace h := h.1 hc
        exact mf_X6_readNumber_b37 hq f0 h
      · replace h := h.2 hc
        exact mf_X6_readNumber_b32 hq f0 h
  · replace h := h.2 hc
    refine mf_X6_fail (fun r1 σ2 h gσ2 => ?_) Fr.rf h
    have fσ2 : Fr S_X6_readNumber σ0 σ2 := f0.tr gσ2 (mkS_sub (by decide) (by decide))
    exact mf_X6_readNumber_b37 hq fσ2 h
set_option maxHeartbeats 1000000 in
theorem mf_X6_isWord_s4_l28 {Q Q' : Int → St → Prop} {σ0 : St} (hq : ∀ (r : Int) (σ1 : St), Q r σ1 → Fr S_X6_isWord_s4 σ0 σ1 → Q' r σ1) : ∀ (n : Nat) (x2 : Int) (σ : St), Fr S_X6_isWord_s4 σ0 σ → wp_X6_isWord_s4_l28 Q n x2 σ → wp_X6_isWord_s4_l28 Q' n x2 σ := by
  intro n
  induction n with
  | zero => intro _ _ _ h; exact h.elim
  | succ n ih =>
    intro x2 σ f0 h
    unfold wp_X6_isWord_s4_l28 at h ⊢
    refine ⟨fun hc => ?_, fun hc => ?_⟩
    · replace h := h.1 hc
      exact hq _ _ h f0
    · replace h := h.2 hc
      refine ⟨h.1, ?_⟩; replace h := h.2
      refine ⟨h.1, ?_⟩; replace h := h.2
      refine ⟨fun hc => ?_, fun hc => ?_⟩
      · replace h := h.1 hc
        intro v1 ev1; replace h := h v1 ev1
        exact ih _ _ f0 h
      · replace h := h.2 hc
        exact hq _ _ h f0
set_option maxHeartbeats 1000000 in
theorem mf_X6_isWord_s4 {Q Q' : Int → St → Prop} {σ0 : St} (hq : ∀ (r : Int) (σ1 : St), Q r σ1 → Fr S_X6_isWord_s4 σ0 σ1 → Q' r σ1) {σ : St} (f0 : Fr S_X6_isWord_s4 σ0 σ) (h : wp_X6_isWord_s4  σ Q) : wp_X6_isWord_s4  σ Q' := by
  unfold wp_X6_isWord_s4 at h ⊢
  refine ⟨fun hc => ?_, fun hc => ?_⟩
  · replace h := h.1 hc
    exact hq _ _ h f0
  · replace h := h.2 hc
    refine ⟨fun hc => ?_, fun hc => ?_⟩
    · replace h := h.1 hc
      exact mf_X6_isWord_s4_l28 hq bigN _ _ f0 h
    · replace h := h.2 hc
      exact hq _ _ h f0
set_option maxHeartbeats 1000000 in
theorem mf_X6_passWord_s4 {Q Q' : Int → St → Prop} {σ0 : St} (hq : ∀ (r : Int) (σ1 : St), Q r σ1 → Fr S_X6_passWord_s4 σ0 σ1 → Q' r σ1) {σ : St} (f0 : Fr S_X6_passWord_s4 σ0 σ) (h : wp_X6_passWord_s4  σ Q) : wp_X6_passWord_s4  σ Q' := by
  unfold wp_X6_passWord_s4 at h ⊢
  refine mf_X6_isWord_s4 (fun r1 σ2 h gσ2 => ?_) Fr.rf h
  have fσ2 : Fr S_X6_passWord_s4 σ0 σ2 := f0.tr gσ2 (mkS_sub (by decide) (by decide))
  refine ⟨fun hc => ?_, fun hc => ?_⟩
  · replace h := h.1 hc
    refine mf_X6_advance (fun r3 σ4 h gσ4 => ?_) Fr.rf h
    have fσ4 : Fr S_X6_passWord_s4 σ0 σ4 := fσ2.tr gσ4 (mkS_sub (by decide) (by decide))
    exact hq _ _ h fσ4
  · replace h := h.2 hc
    refine mf_X6_fail (fun r5 σ6 h gσ6 => ?_) Fr.rf h
    have fσ6 : Fr S_X6_passWord_s4 σ0 σ6 := fσ2.tr gσ6 (mkS_sub (by decide) (by decide))
    refine mf_X6_advance (fun r7 σ8 h gσ8 => ?_) Fr.rf h
    have fσ8 : Fr S_X6_passWord_s4 σ0 σ8 := fσ6.tr gσ8 (mkS_sub (by decide) (by decide))
    exact hq _ _ h fσ8
set_option maxHeartbeats 1000000 in
theorem mf_X6_isWord_s5_l28 {Q Q' : Int → St → Prop} {σ0 : St} (hq : ∀ (r : Int) (σ1 : St), Q r σ1 → Fr S_X6_isWord_s5 σ0 σ1 → Q' r σ1) : ∀ (n : Nat) (x2 : Int) (σ : St), Fr S_X6_isWord_s5 σ0 σ → wp_X6_isWord_s5_l28 Q n x2 σ → wp_X6_isWord_s5_l28 Q' n x2 σ := by
  intro n
  induction n with
  | zero => intro _ _ _ h; exact h.elim
  | succ n ih =>
    intro x2 σ f0 h
    unfold wp_X6_isWord_s5_l28 at h ⊢
    refine ⟨fun hc => ?_, fun hc => ?_⟩
    · replace h := h.1 hc
      exact hq _ _ h f0
    · replace h := h.2 hc
      refine ⟨h.1, ?_⟩; replace h := h.2
      refine ⟨h.1, ?_⟩; replace h := h.2
      refine ⟨fun hc => ?_, fun hc => ?_⟩
      · replace h := h.1 hc
        intro v1 ev1; replace h := h v1 ev1
        exact ih _ _ f0 h
      · replace h := h.2 hc
        exact hq _ _ h f0
set_option maxHeartbeats 1000000 in
theorem mf_X6_isWord_s5 {Q Q' : Int → St → Prop} {σ0 : St} (hq : ∀ (r : Int) (σ1 : St), Q r σ1 → Fr S_X6_isWord_s5 σ0 σ1 → Q' r σ1) {σ : St} (f0 : Fr S_X6_isWord_s5 σ0 σ) (h : wp_X6_isWord_s5  σ Q) : wp_X6_isWord_s5  σ Q' := by
  unfold wp_X6_isWord_s5 at h ⊢
  refine ⟨fun hc => ?_, fun hc => ?_⟩
  · replace h := h.1 hc
    exact hq _ _ h f0
  · replace h := h.2 hc
    refine ⟨fun hc => ?_, fun hc => ?_⟩
    · replace h := h.1 hc
      exact mf_X6_isWord_s5_l28 hq bigN _ _ f0 h
    · replace h := h.2 hc
      exact hq _ _ h f0
set_option maxHeartbeats 1000000 in
theorem mf_X6_passWord_s5 {Q Q' : Int → St → Prop} {σ0 : St} (hq : ∀ (r : Int) (σ1 : St), Q r σ1 → Fr S_X6_passWord_s5 σ0 σ1 → Q' r σ1) {σ : St} (f0 : Fr S_X6_passWord_s5 σ0 σ) (h : wp_X6_passWord_s5  σ Q) : wp_X6_passWord_s5  σ Q' := by
  unfold wp_X6_passWord_s5 at h ⊢
  refine mf_X6_isWord_s5 (fun r1 σ2 h gσ2 => ?_) Fr.rf h
  have fσ2 : Fr S_X6_passWord_s5 σ0 σ2 := f0.tr gσ2 (mkS_sub (by decide) (by decide))
  refine ⟨fun hc => ?_, fun hc => ?_⟩
  · replace h := h.1 hc
    refine mf_X6_advance (fun r3 σ4 h gσ4 => ?_) Fr.rf h
    have fσ4 : Fr S_X6_passWord_s5 σ0 σ4 := fσ2.tr gσ4 (mkS_sub (by decide) (by decide))
    exact hq _ _ h fσ4
  · replace h := h.2 hc
    refine mf_X6_fail (fun r5 σ6 h gσ6 => ?_) Fr.rf h
    have fσ6 : Fr S_X6_passWord_s5 σ0 σ6 := fσ2.tr gσ6 (mkS_sub (by decide) (by decide))
    refine mf_X6_advance (fun r7 σ8 h gσ8 => ?_) Fr.rf h
    have fσ8 : Fr S_X6_passWord_s5 σ0 σ8 := fσ6.tr gσ8 (mkS_sub (by decide) (by decide))
    exact hq _ _ h fσ8
set_option maxHeartbeats 1000000 in
theorem mf_X6_isWord_s6_l28 {Q Q' : Int → St → Prop} {σ0 : St} (hq : ∀ (r : Int) (σ1 : St), Q r σ1 → Fr S_X6_isWord_s6 σ0 σ1 → Q' r σ1) : ∀ (n : Nat) (x2 : Int) (σ : St), Fr S_X6_isWord_s6 σ0 σ → wp_X6_isWord_s6_l28 Q n x2 σ → wp_X6_isWord_s6_l28 Q' n x2 σ := by
  intro n
  induction n with
  | zero => intro _ _ _ h; exact h.elim
  | succ n ih =>
    intro x2 σ f0 h
    unfold wp_X6_isWord_s6_l28 at h ⊢
    refine ⟨fun hc => ?_, fun hc => ?_⟩
    · replace h := h.1 hc
      exact hq _ _ h f0
    · replace h := h.2 hc
      refine ⟨h.1, ?_⟩; replace h := h.2
      refine ⟨h.1, ?_⟩; replace h := h.2
      refine ⟨fun hc => ?_, fun hc => ?_⟩
      · replace h := h.1 hc
        intro v1 ev1; replace h := h v1 ev1
        exact ih _ _ f0 h
      · replace h := h.2 hc
        exact hq _ _ h f0
set_option maxHeartbeats 1000000 in
theorem mf_X6_isWord_s6 {Q Q' : Int → St → Prop} {σ0 : St} (hq : ∀ (r : Int) (σ1 : St), Q r σ1 → Fr S_X6_isWord_s6 σ0 σ1 → Q' r σ1) {σ : St} (f0 : Fr S_X6_isWord_s6 σ0 σ) (h : wp_X6_isWord_s6  σ Q) : wp_X6_isWord_s6  σ Q' := by
  unfold wp_X6_isWord_s6 at h ⊢
  refine ⟨fun hc => ?_, fun hc => ?_⟩
  · replace h := h.1 hc
    exact hq _ _ h f0
  · replace h := h.2 hc
    refine ⟨fun hc => ?_, fun hc => ?_⟩
    · replace h := h.1 hc
      exact mf_X6_isWord_s6_l28 hq bigN _ _ f0 h
    · replace h := h.2 hc
      exact hq _ _ h f0
set_option maxHeartbeats 1000000 in
theorem mf_X6_passWord_s6 {Q Q' : Int → St → Prop} {σ0 : St} (hq : ∀ (r : Int) (σ1 : St), Q r σ1 → Fr S_X6_passWord_s6 σ0 σ1 → Q' r σ1) {σ : St} (f0 : Fr S_X6_passWord_s6 σ0 σ) (h : wp_X6_passWord_s6  σ Q) : wp_X6_passWord_s6  σ Q' := by
  unfold wp_X6_passWord_s6 at h ⊢
  refine mf_X6_isWord_s6 (fun r1 σ2 h gσ2 => ?_) Fr.rf h
  have fσ2 : Fr S_X6_passWord_s6 σ0 σ2 := f0.tr gσ2 (mkS_sub (by decide) (by decide))
  refine ⟨fun hc => ?_, fun hc => ?_⟩
  · replace h := h.1 hc
    refine mf_X6_advance (fun r3 σ4 h gσ4 => ?_) Fr.rf h
    have fσ4 : Fr S_X6_passWord_s6 σ0 σ4 := fσ2.tr gσ4 (mkS_sub (by decide) (by decide))
    exact hq _ _ h fσ4
  · replace h := h.2 hc
    refine mf_X6_fail (fun r5 σ6 h gσ6 => ?_) Fr.rf h
    have fσ6 : Fr S_X6_passWord_s6 σ0 σ6 := fσ2.tr gσ6 (mkS_sub (by decide) (by decide))
    refine mf_X6_advance (fun r7 σ8 h gσ8 => ?_) Fr.rf h
    have fσ8 : Fr S_X6_passWord_s6 σ0 σ8 := fσ6.tr gσ8 (mkS_sub (by decide) (by decide))
    exact hq _ _ h fσ8
set_option maxHeartbeats 1000000 in
theorem mf_X6_readRow_c11_l23 {Q Q' : Int → St → Prop} {σ0 : St} (hq : ∀ (r : Int) (σ1 : St), Q r σ1 → Fr S_X6_readRow_c11 σ0 σ1 → Q' r σ1) : ∀ (n : Nat) (x2 : Int) (x3 : Int) (σ : St), Fr S_X6_readRow_c11 σ0 σ → wp_X6_readRow_c11_l23 Q n x2 x3 σ → wp_X6_readRow_c11_l23 Q' n x2 x3 σ := by
  intro n
  induction n with
  | zero => intro _ _ _ _ h; exact h.elim
  | succ n ih =>
    intro x2 x3 σ f0 h
    unfold wp_X6_readRow_c11_l23 at h ⊢
    refine ⟨fun hc => ?_, fun hc => ?_⟩
    · replace h := h.1 hc
      exact hq _ _ h f0
    · replace h := h.2 hc
      refine ⟨fun hc => ?_, fun hc => ?_⟩
      · replace h := h.1 hc
        exact hq _ _ h f0
      · replace h := h.2 hc
        refine mf_X6_readNumber (fun r2 σ3 h gσ3 => ?_) Fr.rf h
        have fσ3 : Fr S_X6_readRow_c11 σ0 σ3 := f0.tr gσ3 (mkS_sub (by decide) (by decide))
        refine ⟨h.1, fun σ4 eσ4 => ?_⟩; replace h := h.2 σ4 eσ4; have fσ4 : Fr S_X6_readRow_c11 σ0 σ4 := by rw [eσ4]; exact fσ3.up rfl
        intro v5 ev5; replace h := h v5 ev5
        exact ih _ _ _ fσ4 h
set_option maxHeartbeats 1000000 in
theorem mf_X6_readRow_c11 {Q Q' : Int → St → Prop} {σ0 : St} (hq : ∀ (r : Int) (σ1 : St), Q r σ1 → Fr S_X6_readRow_c11 σ0 σ1 → Q' r σ1) {σ : St} (f0 : Fr S_X6_readRow_c11 σ0 σ) (h : wp_X6_readRow_c11  σ Q) : wp_X6_readRow_c11  σ Q' := by
  unfold wp_X6_readRow_c11 at h ⊢
  intro v1 ev1; replace h := h v1 ev1
  exact mf_X6_readRow_c11_l23 hq bigN _ _ _ f0 h
set_option maxHeartbeats 1000000 in
theorem mf_X6_isWord_s7_l28 {Q Q' : Int → St → Prop} {σ0 : St} (hq : ∀ (r : Int) (σ1 : St), Q r σ1 → Fr S_X6_isWord_s7 σ0 σ1 → Q' r σ1) : ∀ (n : Nat) (x2 : Int) (σ : St), Fr S_X6_isWord_s7 σ0 σ → wp_X6_isWord_s7_l28 Q n x2 σ → wp_X6_isWord_s7_l28 Q' n x2 σ := by
  intro n
  induction n with
  | zero => intro _ _ _ h; exact h.elim
  | succ n ih =>
    intro x2 σ f0 h
    unfold wp_X6_isWord_s7_l28 at h ⊢
    refine ⟨fun hc => ?_, fun hc => ?_⟩
    · replace h := h.1 hc
      exact hq _ _ h f0
    · replace h := h.2 hc
      refine ⟨h.1, ?_⟩; replace h := h.2
      refine ⟨h.1, ?_⟩; replace h := h.2
      refine ⟨fun hc => ?_, fun hc => ?_⟩
      · replace h := h.1 hc
        intro v1 ev1; replace h := h v1 ev1
        exact ih _ _ f0 h
      · replace h := h.2 hc
        exact hq _ _ h f0
set_option maxHeartbeats 1000000 in
theorem mf_X6_isWord_s7 {Q Q' : Int → St → Prop} {σ0 : St} (hq : ∀ (r : Int) (σ1 : St), Q r σ1 → Fr S_X6_isWord_s7 σ0 σ1 → Q' r σ1) {σ : St} (f0 : Fr S_X6_isWord_s7 σ0 σ) (h : wp_X6_isWord_s7  σ Q) : wp_X6_isWord_s7  σ Q' := by
  unfold wp_X6_isWord_s7 at h ⊢
  refine ⟨fun hc => ?_, fun hc => ?_⟩
  · replace h := h.1 hc
    exact hq _ _ h f0
  · replace h := h.2 hc
    refine ⟨fun hc => ?_, fun hc => ?_⟩
    · replace h := h.1 hc
      exact mf_X6_isWord_s7_l28 hq bigN _ _ f0 h
    · replace h := h.2 hc
      exact hq _ _ h f0
set_option maxHeartbeats 1000000 in
theorem mf_X6_passWord_s7 {Q Q' : Int → St → Prop} {σ0 : St} (hq : ∀ (r : Int) (σ1 : St), Q r σ1 → Fr S_X6_passWord_s7 σ0 σ1 → Q' r σ1) {σ : St} (f0 : Fr S_X6_passWord_s7 σ0 σ) (h : wp_X6_passWord_s7  σ Q) : wp_X6_passWord_s7  σ Q' := by
  unfold wp_X6_passWord_s7 at h ⊢
  refine mf_X6_isWord_s7 (fun r1 σ2 h gσ2 => ?_) Fr.rf h
  have fσ2 : Fr S_X6_passWord_s7 σ0 σ2 := f0.tr gσ2 (mkS_sub (by decide) (by decide))
  refine ⟨fun hc => ?_, fun hc => ?_⟩
  · replace h := h.1 hc
    refine mf_X6_advance (fun r3 σ4 h gσ4 => ?_) Fr.rf h
    have fσ4 : Fr S_X6_passWord_s7 σ0 σ4 := fσ2.tr gσ4 (mkS_sub (by decide) (by decide))
    exact hq _ _ h fσ4
  · replace h := h.2 hc
    refine mf_X6_fail (fun r5 σ6 h gσ6 => ?_) Fr.rf h
    have fσ6 : Fr S_X6_passWord_s7 σ0 σ6 := fσ2.tr gσ6 (mkS_sub (by decide) (by decide))
    refine mf_X6_advance (fun r7 σ8 h gσ8 => ?_) Fr.rf h
    have fσ8 : Fr S_X6_passWord_s7 σ0 σ8 := fσ6.tr gσ8 (mkS_sub (by decide) (by decide))
    exact hq _ _ h fσ8
set_option maxHeartbeats 1000000 in
theorem mf_X6_readRow_c12_l23 {Q Q' : Int → St → Prop} {σ0 : St} (hq : ∀ (r : Int) (σ1 : St), Q r σ1 → Fr S_X6_readRow_c12 σ0 σ1 → Q' r σ1) : ∀ (n : Nat) (x2 : Int) (x3 : Int) (σ : St), Fr S_X6_readRow_c12 σ0 σ → wp_X6_readRow_c12_l23 Q n x2 x3 σ → wp_X6_readRow_c12_l23 Q' n x2 x3 σ := by
  intro n
  induction n with
  | zero => intro _ _ _ _ h; exact h.elim
  | succ n ih =>
    intro x2 x3 σ f0 h
    unfold wp_X6_readRow_c12_l23 at h ⊢
    refine ⟨fun hc => ?_, fun hc => ?_⟩
    · replace h := h.1 hc
      exact hq _ _ h f0
    · replace h := h.2 hc
      refine ⟨fun hc => ?_, fun hc => ?_⟩
      · replace h := h.1 hc
        exact hq _ _ h f0
      · replace h := h.2 hc
        refine mf_X6_readNumber (fun r2 σ3 h gσ3 => ?_) Fr.rf h
        have fσ3 : Fr S_X6_readRow_c12 σ0 σ3 := f0.tr gσ3 (mkS_sub (by decide) (by decide))
        refine ⟨h.1, fun σ4 eσ4 => ?_⟩; replace h := h.2 σ4 eσ4; have fσ4 : Fr S_X6_readRow_c12 σ0 σ4 := by rw [eσ4]; exact fσ3.up rfl
        intro v5 ev5; replace h := h v5 ev5
        exact ih _ _ _ fσ4 h
set_option maxHeartbeats 1000000 in
theorem mf_X6_readRow_c12 {Q Q' : Int → St → Prop} {σ0 : St} (hq : ∀ (r : Int) (σ1 : St), Q r σ1 → Fr S_X6_readRow_c12 σ0 σ1 → Q' r σ1) {σ : St} (f0 : Fr S_X6_readRow_c12 σ0 σ) (h : wp_X6_readRow_c12  σ Q) : wp_X6_readRow_c12  σ Q' := by
  unfold wp_X6_readRow_c12 at h ⊢
  intro v1 ev1; replace h := h v1 ev1
  exact mf_X6_readRow_c12_l23 hq bigN _ _ _ f0 h
set_option maxHeartbeats 1000000 in
theorem mf_X6_readTable {Q Q' : Int → St → Prop} {σ0 : St} (hq : ∀ (r : Int) (σ1 : St), Q r σ1 → Fr S_X6_readTable σ0 σ1 → Q' r σ1) {σ : St} (f0 : Fr S_X6_readTable σ0 σ) (h : wp_X6_readTable  σ Q) : wp_X6_readTable  σ Q' := by
  unfold wp_X6_readTable at h ⊢
  refine mf_X6_advance (fun r1 σ2 h gσ2 => ?_) Fr.rf h
  have fσ2 : Fr S_X6_readTable σ0 σ2 := f0.tr gσ2 (mkS_sub (by decide) (by decide))
  refine mf_X6_readNumber (fun r3 σ4 h gσ4 => ?_) Fr.rf h
  have fσ4 : Fr S_X6_readTable σ0 σ4 := fσ2.tr gσ4 (mkS_sub (by decide) (by decide))
  intro σ5 eσ5; replace h := h σ5 eσ5; have fσ5 : Fr S_X6_readTable σ0 σ5 := by rw [eσ5]; exact fσ4.up rfl
  refine mf_X6_passWord_s4 (fun r6 σ7 h gσ7 => ?_) Fr.rf h
  have fσ7 : Fr S_X6_readTable σ0 σ7 := fσ5.tr gσ7 (mkS_sub (by decide) (by decide))
  refine mf_X6_readNumber (fun r8 σ9 h gσ9 => ?_) Fr.rf h
  have fσ9 : Fr S_X6_readTable σ0 σ9 := fσ7.tr gσ9 (mkS_sub (by decide) (by decide))
  intro σ10 eσ10; replace h := h σ10 eσ10; have fσ10 : Fr S_X6_readTable σ0 σ10 := by rw [eσ10]; exact fσ9.up rfl
  refine mf_X6_passWord_s5 (fun r11 σ12 h gσ12 => ?_) Fr.rf h
  have fσ12 : Fr S_X6_readTable σ0 σ12 := fσ10.tr gσ12 (mkS_sub (by decide) (by decide))
  refine mf_X6_readNumber (fun r13 σ14 h gσ14 => ?_) Fr.rf h
  have fσ14 : Fr S_X6_readTable σ0 σ14 := fσ12.tr gσ14 (mkS_sub (by decide) (by decide))
  intro σ15 eσ15; replace h := h σ15 eσ15; have fσ15 : Fr S_X6_readTable σ0 σ15 := by rw [eσ15]; exact fσ14.up rfl
  refine mf_X6_passWord_s6 (fun r16 σ17 h gσ17 => ?_) Fr.rf h
  have fσ17 : Fr S_X6_readTable σ0 σ17 := fσ15.tr gσ17 (mkS_sub (by decide) (by decide))
  refine mf_X6_readRow_c11 (fun r18 σ19 h gσ19 => ?_) Fr.rf h
  have fσ19 : Fr S_X6_readTable σ0 σ19 := fσ17.tr gσ19 (mkS_sub (by decide) (by decide))
  refine mf_X6_passWord_s7 (fun r20 σ21 h gσ21 => ?_) Fr.rf h
  have fσ21 : Fr S_X6_readTable σ0 σ21 := fσ19.tr gσ21 (mkS_sub (by decide) (by decide))
  refine mf_X6_readRow_c12 (fun r22 σ23 h gσ23 => ?_) Fr.rf h
  have fσ23 : Fr S_X6_readTable σ0 σ23 := fσ21.tr gσ23 (mkS_sub (by decide) (by decide))
  exact hq _ _ h fσ23
set_option maxHeartbeats 1000000 in
theorem mf_X6_isLabel_b40 {Q Q' : Int → St → Prop} {σ0 : St} (hq : ∀ (r : Int) (σ1 : St), Q r σ1 → Fr S_X6_isLabel σ0 σ1 → Q' r σ1) {σ : St} (f0 : Fr S_X6_isLabel σ0 σ) (h : wp_X6_isLabel_b40 Q  σ) : wp_X6_isLabel_b40 Q'  σ := by
  unfold wp_X6_isLabel_b40 at h ⊢
  exact hq _ _ h f0
set_option maxHeartbeats 1000000 in
theorem mf_X6_isLabel {Q Q' : Int → St → Prop} {σ0 : St} (hq : ∀ (r : Int) (σ1 : St), Q r σ1 → Fr S_X6_isLabel σ0 σ1 → Q' r σ1) {σ : St} (f0 : Fr S_X6_isLabel σ0 σ) (h : wp_X6_isLabel  σ Q) : wp_X6_isLabel  σ Q' := by
  unfold wp_X6_isLabel at h ⊢
  refine ⟨fun hc => ?_, fun hc => ?_⟩
  · replace h := h.1 hc
    exact mf_X6_isLabel_b40 hq f0 h
  · replace h := h.2 hc
    refine ⟨h.1, ?_⟩; replace h := h.2
    refine ⟨fun hc => ?_, fun hc => ?_⟩
    · replace h := h.1 hc
      exact mf_X6_isLabel_b40 hq f0 h
    · replace h := h.2 hc
      refine ⟨h.1, ?_⟩; replace h := h.2
      refine ⟨fun hc => ?_, fun hc => ?_⟩
      · replace h := h.1 hc
        exact mf_X6_isLabel_b40 hq f0 h
      · replace h := h.2 hc
        exact hq _ _ h f0
set_option maxHeartbeats 1000000 in
theorem mf_X6_isLetter_b25 {Q Q' : Int → St → Prop} {σ0 : St} (hq : ∀ (r : Int) (σ1 : St), Q r σ1 → Fr S_X6_isLetter σ0 σ1 → Q' r σ1) {σ : St} (f0 : Fr S_X6_isLetter σ0 σ) (h : wp_X6_isLetter_b25 Q  σ) : wp_X6_isLetter_b25 Q'  σ := by
  unfold wp_X6_isLetter_b25 at h ⊢
  exact hq _ _ h f0
set_option maxHeartbeats 1000000 in
theorem mf_X6_isLetter {Q Q' : Int → St → Prop} {σ0 : St} (hq : ∀ (r : Int) (σ1 : St), Q r σ1 → Fr S_X6_isLetter σ0 σ1 → Q' r σ1) {σ : St} (f0 : Fr S_X6_isLetter σ0 σ) (h : wp_X6_isLetter  σ Q) : wp_X6_isLetter  σ Q' := by
  unfold wp_X6_isLetter at h ⊢
  refine ⟨fun hc => ?_, fun hc => ?_⟩
  · replace h := h.1 hc
    exact mf_X6_isLetter_b25 hq f0 h
  · replace h := h.2 hc
    refine ⟨fun hc => ?_, fun hc => ?_⟩
    · replace h := h.1 hc
      exact mf_X6_isLetter_b25 hq f0 h
    · replace h := h.2 hc
      exact hq _ _ h f0
set_option maxHeartbeats 1000000 in
theorem mf_X6_readPart_b60 {Q Q' : Int → St → Prop} {σ0 : St} (hq : ∀ (r : Int) (σ1 : St), Q r σ1 → Fr S_X6_readPart σ0 σ1 → Q' r σ1) {x2 : Int} {σ : St} (f0 : Fr S_X6_readPart σ0 σ) (h : wp_X6_readPart_b60 Q x2 σ) : wp_X6_readPart_b60 Q' x2 σ := by
  unfold wp_X6_readPart_b60 at h ⊢
  refine mf_X6_advance (fun r9 σ10 h gσ10 => ?_) Fr.rf h
  have fσ10 : Fr S_X6_readPart σ0 σ10 := f0.tr gσ10 (mkS_sub (by decide) (by decide))
  exact hq _ _ h fσ10
set_option maxHeartbeats 1000000 in
theorem mf_X6_readPart_b55 {Q Q' : Int → St → Prop} {σ0 : St} (hq : ∀ (r : Int) (σ1 : St), Q r σ1 → Fr S_X6_readPart σ0 σ1 → Q' r σ1) {x2 : Int} {σ : St} (f0 : Fr S_X6_readPart σ0 σ) (h : wp_X6_readPart_b55 Q x2 σ) : wp_X6_readPart_b55 Q' x2 σ := by
  unfold wp_X6_readPart_b55 at h ⊢
  refine mf_X6_fail (fun r7 σ8 h gσ8 => ?_) Fr.rf h
  have fσ8 : Fr S_X6_readPart σ0 σ8 := f0.tr gσ8 (mkS_sub (by decide) (by decide))
  exact mf_X6_readPart_b60 hq fσ8 h
set_option maxHeartbeats 1000000 in
theorem mf_X6_readPart {Q Q' : Int → St → Prop} {σ0 : St} (hq : ∀ (r : Int) (σ1 : St), Q r σ1 → Fr S_X6_readPart σ0 σ1 → Q' r σ1) {x1 : Int} {σ : St} (f0 : Fr S_X6_readPart σ0 σ) (h : wp_X6_readPart x1 σ Q) : wp_X6_readPart x1 σ Q' := by
  unfold wp_X6_readPart at h ⊢
  refine mf_X6_isLabel (fun r1 σ2 h gσ2 => ?_) Fr.rf h
  have fσ2 : Fr S_X6_readPart σ0 σ2 := f0.tr gσ2 (mkS_sub (by decide) (by decide))
  refine ⟨fun hc => ?_, fun hc => ?_⟩
  · replace h := h.1 hc
    refine mf_X6_isLetter (fun r3 σ4 h gσ4 => ?_) Fr.rf h
    have fσ4 : Fr S_X6_readPart σ0 σ4 := fσ2.tr gσ4 (mkS_sub (by decide) (by decide))
    refine ⟨fun hc => ?_, fun hc => ?_⟩
    · replace h := h.1 hc
      exact mf_X6_readPart_b55 hq fσ4 h
    · replace h := h.2 hc
      refine ⟨fun hc => ?_, fun hc => ?_⟩
      · replace h := h.1 hc
        exact mf_X6_readPart_b55 hq fσ4 h
      · replace h := h.2 hc
        refine ⟨h.1, ?_⟩; replace h := h.2
        intro v5 ev5; replace h := h v5 ev5
        exact mf_X6_readPart_b60 hq fσ4 h
  · replace h := h.2 hc
    refine ⟨h.1, ?_⟩; replace h := h.2
    intro v6 ev6; replace h := h v6 ev6
    exact mf_X6_readPart_b60 hq fσ2 h
set_option maxHeartbeats 1000000 in
theorem mf_X6_passSign_b21 {Q Q' : Int → St → Prop} {σ0 : St} (hq : ∀ (r : Int) (σ1 : St), Q r σ1 → Fr S_X6_passSign σ0 σ1 → Q' r σ1) {σ : St} (f0 : Fr S_X6_passSign σ0 σ) (h : wp_X6_passSign_b21 Q  σ) : wp_X6_passSign_b21 Q'  σ := by
  unfold wp_X6_passSign_b21 at h ⊢
  refine mf_X6_fail (fun r3 σ4 h gσ4 => ?_) Fr.rf h
  have fσ4 : Fr S_X6_passSign σ0 σ4 := f0.tr gσ4 (mkS_sub (by decide) (by decide))
  refine mf_X6_advance (fun r5 σ6 h gσ6 => ?_) Fr.rf h
  have fσ6 : Fr S_X6_passSign σ0 σ6 := fσ4.tr gσ6 (mkS_sub (by decide) (by decide))
  exact hq _ _ h fσ6
set_option maxHeartbeats 1000000 in
theorem mf_X6_passSign {Q Q' : Int → St → Prop} {σ0 : St} (hq : ∀ (r : Int) (σ1 : St), Q r σ1 → Fr S_X6_passSign σ0 σ1 → Q' r σ1) {x1 : Int} {σ : St} (f0 : Fr S_X6_passSign σ0 σ) (h : wp_X6_passSign x1 σ Q) : wp_X6_passSign x1 σ Q' := by
  unfold wp_X6_passSign at h ⊢
  refine ⟨fun hc => ?_, fun hc => ?_⟩
  · replace h := h.1 hc
    exact mf_X6_passSign_b21 hq f0 h
  · replace h := h.2 hc
    refine ⟨h.1, ?_⟩; replace h := h.2
    refine ⟨fun hc => ?_, fun hc => ?_⟩
    · replace h := h.1 hc
      refine mf_X6_advance (fun r1 σ2 h gσ2 => ?_) Fr.rf h
      have fσ2 : Fr S_X6_passSign σ0 σ2 := f0.tr gσ2 (mkS_sub (by decide) (by decide))
      exact hq _ _ h fσ2
    · replace h := h.2 hc
      exact mf_X6_passSign_b21 hq f0 h
set_option maxHeartbeats 1000000 in
theorem mf_X6_isWord_s1_l28 {Q Q' : Int → St → Prop} {σ0 : St} (hq : ∀ (r : Int) (σ1 : St), Q r σ1 → Fr S_X6_isWord_s1 σ0 σ1 → Q' r σ1) : ∀ (n : Nat) (x2 : Int) (σ : St), Fr S_X6_isWord_s1 σ0 σ → wp_X6_isWord_s1_l28 Q n x2 σ → wp_X6_isWord_s1_l28 Q' n x2 σ := by
  intro n
  induction n with
  | zero => intro _ _ _ h; exact h.elim
  | succ n ih =>
    intro x2 σ f0 h
    unfold wp_X6_isWord_s1_l28 at h ⊢
    refine ⟨fun hc => ?_, fun hc => ?_⟩
    · replace h := h.1 hc
      exact hq _ _ h f0
    · replace h := h.2 hc
      refine ⟨h.1, ?_⟩; replace h := h.2
      refine ⟨h.1, ?_⟩; replace h := h.2
      refine ⟨fun hc => ?_, fun hc => ?_⟩
      · replace h := h.1 hc
        intro v1 ev1; replace h := h v1 ev1
        exact ih _ _ f0 h
      · replace h := h.2 hc
        exact hq _ _ h f0
set_option maxHeartbeats 1000000 in
theorem mf_X6_isWord_s1 {Q Q' : Int → St → Prop} {σ0 : St} (hq : ∀ (r : Int) (σ1 : St), Q r σ1 → Fr S_X6_isWord_s1 σ0 σ1 → Q' r σ1) {σ : St} (f0 : Fr S_X6_isWord_s1 σ0 σ) (h : wp_X6_isWord_s1  σ Q) : wp_X6_isWord_s1  σ Q' := by
  unfold wp_X6_isWord_s1 at h ⊢
  refine ⟨fun hc => ?_, fun hc => ?_⟩
  · replace h := h.1 hc
    exact hq _ _ h f0
  · replace h := h.2 hc
    refine ⟨fun hc => ?_, fun hc => ?_⟩
    · replace h := h.1 hc
      exact mf_X6_isWord_s1_l28 hq bigN _ _ f0 h
    · replace h := h.2 hc
      exact hq _ _ h f0
set_option maxHeartbeats 1000000 in
theorem mf_X6_isWord_s2_l28 {Q Q' : Int → St → Prop} {σ0 : St} (hq : ∀ (r : Int) (σ1 : St), Q r σ1 → Fr S_X6_isWord_s2 σ0 σ1 → Q' r σ1) : ∀ (n : Nat) (x2 : Int) (σ : St), Fr S_X6_isWord_s2 σ0 σ → wp_X6_isWord_s2_l28 Q n x2 σ → wp_X6_isWord_s2_l28 Q' n x2 σ := by
  intro n
  induction n with
  | zero => intro _ _ _ h; exact h.elim
  | succ n ih =>
    intro x2 σ f0 h
    unfold wp_X6_isWord_s2_l28 at h ⊢
    refine ⟨fun hc => ?_, fun hc => ?_⟩
    · replace h := h.1 hc
      exact hq _ _ h f0
    · replace h := h.2 hc
      refine ⟨h.1, ?_⟩; replace h := h.2
      refine ⟨h.1, ?_⟩; replace h := h.2
      refine ⟨fun hc => ?_, fun hc => ?_⟩
      · replace h := h.1 hc
        intro v1 ev1; replace h := h v1 ev1
        exact ih _ _ f0 h
      · replace h := h.2 hc
        exact hq _ _ h f0
set_option maxHeartbeats 1000000 in
theorem mf_X6_isWord_s2 {Q Q' : Int → St → Prop} {σ0 : St} (hq : ∀ (r : Int) (σ1 : St), Q r σ1 → Fr S_X6_isWord_s2 σ0 σ1 → Q' r σ1) {σ : St} (f0 : Fr S_X6_isWord_s2 σ0 σ) (h : wp_X6_isWord_s2  σ Q) : wp_X6_isWord_s2  σ Q' := by
  unfold wp_X6_isWord_s2 at h ⊢
  refine ⟨fun hc => ?_, fun hc => ?_⟩
  · replace h := h.1 hc
    exact hq _ _ h f0
  · replace h := h.2 hc
    refine ⟨fun hc => ?_, fun hc => ?_⟩
    · replace h := h.1 hc
      exact mf_X6_isWord_s2_l28 hq bigN _ _ f0 h
    · replace h := h.2 hc
      exact hq _ _ h f0
set_option maxHeartbeats 1000000 in
theorem mf_X6_readRule_b181 {Q Q' : Int → St → Prop} {σ0 : St} (hq : ∀ (r : Int) (σ1 : St), Q r σ1 → Fr S_X6_readRule σ0 σ1 → Q' r σ1) {x1 : Int} {σ : St} (f0 : Fr S_X6_readRule σ0 σ) (h : wp_X6_readRule_b181 Q x1 σ) : wp_X6_readRule_b181 Q' x1 σ := by
  unfold wp_X6_readRule_b181 at h ⊢
  intro σ37 eσ37; replace h := h σ37 eσ37; have fσ37 : Fr S_X6_readRule σ0 σ37 := by rw [eσ37]; exact f0.up rfl
  exact hq _ _ h fσ37
set_option maxHeartbeats 1000000 in
theorem mf_X6_readRule_b129 {Q Q' : Int → St → Prop} {σ0 : St} (hq : ∀ (r : Int) (σ1 : St), Q r σ1 → Fr S_X6_readRule σ0 σ1 → Q' r σ1) {x1 : Int} {σ : St} (f0 : Fr S_X6_readRule σ0 σ) (h : wp_X6_readRule_b129 Q x1 σ) : wp_X6_readRule_b129 Q' x1 σ := by
  unfold wp_X6_readRule_b129 at h ⊢
  refine ⟨h.1, fun σ29 eσ29 => ?_⟩; replace h := h.2 σ29 eσ29; have fσ29 : Fr S_X6_readRule σ0 σ29 := by rw [eσ29]; exact f0.up rfl
  refine mf_X6_isWord_s2 (fun r30 σ31 h gσ31 => ?_) Fr.rf h
  have fσ31 : Fr S_X6_readRule σ0 σ31 := fσ29.tr gσ31 (mkS_sub (by decide) (by decide))
  refine ⟨fun hc => ?_, fun hc => ?_⟩
  · replace h := h.1 hc
    exact mf_X6_readRule_b181 hq fσ31 h
  · replace h := h.2 hc
    refine mf_X6_advance (fun r32 σ33 h gσ33 => ?_) Fr.rf h
    have fσ33 : Fr S_X6_readRule σ0 σ33 := fσ31.tr gσ33 (mkS_sub (by decide) (by decide))
    refine mf_X6_readNumber (fun r34 σ35 h gσ35 => ?_) Fr.rf h
    have fσ35 : Fr S_X6_readRule σ0 σ35 := fσ33.tr gσ35 (mkS_sub (by decide) (by decide))
    refine ⟨h.1, fun σ36 eσ36 => ?_⟩; replace h := h.2 σ36 eσ36; have fσ36 : Fr S_X6_readRule σ0 σ36 := by rw [eσ36]; exact fσ35.up rfl
    exact mf_X6_readRule_b181 hq fσ36 h
set_option maxHeartbeats 1000000 in
theorem mf_X6_readRule_b89 {Q Q' : Int → St → Prop} {σ0 : St} (hq : ∀ (r : Int) (σ1 : St), Q r σ1 → Fr S_X6_readRule σ0 σ1 → Q' r σ1) {x1 s0 s1 : Int} {σ : St} (f0 : Fr S_X6_readRule σ0 σ) (h : wp_X6_readRule_b89 Q x1 s0 s1 σ) : wp_X6_readRule_b89 Q' x1 s0 s1 σ := by
  unfold wp_X6_readRule_b89 at h ⊢
  refine ⟨h.1, fun σ20 eσ20 => ?_⟩; replace h := h.2 σ20 eσ20; have fσ20 : Fr S_X6_readRule σ0 σ20 := by rw [eσ20]; exact f0.up rfl
  refine ⟨h.1, fun σ21 eσ21 => ?_⟩; replace h := h.2 σ21 eσ21; have fσ21 : Fr S_X6_readRule σ0 σ21 := by rw [eσ21]; exact fσ20.up rfl
  refine mf_X6_isWord_s1 (fun r22 σ23 h gσ23 => ?_) Fr.rf h
  have fσ23 : Fr S_X6_readRule σ0 σ23 := fσ21.tr gσ23 (mkS_sub (by decide) (by decide))
  refine ⟨fun hc => ?_, fun hc => ?_⟩
  · replace h := h.1 hc
    exact mf_X6_readRule_b129 hq fσ23 h
  · replace h := h.2 hc
    refine mf_X6_advance (fun r24 σ25 h gσ25 => ?_) Fr.rf h
    have fσ25 : Fr S_X6_readRule σ0 σ25 := fσ23.tr gσ25 (mkS_sub (by decide) (by decide))
    refine mf_X6_readNumber (fun r26 σ27 h gσ27 => ?_) Fr.rf h
    have fσ27 : Fr S_X6_readRule σ0 σ27 := fσ25.tr gσ27 (mkS_sub (by decide) (by decide))
    refine ⟨h.1, fun σ28 eσ28 => ?_⟩; replace h := h.2 σ28 eσ28; have fσ28 : Fr S_X6_readRule σ0 σ28 := by rw [eσ28]; exact fσ27.up rfl
    exact mf_X6_readRule_b129 hq fσ28 h
set_option maxHeartbeats 1000000 in
theorem mf_X6_readRule_b80 {Q Q' : Int → St → Prop} {σ0 : St} (hq : ∀ (r : Int) (σ1 : St), Q r σ1 → Fr S_X6_readRule σ0 σ1 → Q' r σ1) {x1 s0 : Int} {σ : St} (f0 : Fr S_X6_readRule σ0 σ) (h : wp_X6_readRule_b80 Q x1 s0 σ) : wp_X6_readRule_b80 Q' x1 s0 σ := by
  unfold wp_X6_readRule_b80 at h ⊢
  refine mf_X6_readPart (fun r18 σ19 h gσ19 => ?_) Fr.rf h
  have fσ19 : Fr S_X6_readRule σ0 σ19 := f0.tr gσ19 (mkS_sub (by decide) (by decide))
  exact mf_X6_readRule_b89 hq fσ19 h
set_option maxHeartbeats 1000000 in
theorem mf_X6_readRule {Q Q' : Int → St → Prop} {σ0 : St} (hq : ∀ (r : Int) (σ1 : St), Q r σ1 → Fr S_X6_readRule σ0 σ1 → Q' r σ1) {σ : St} (f0 : Fr S_X6_readRule σ0 σ) (h : wp_X6_readRule  σ Q) : wp_X6_readRule  σ Q' := by
  unfold wp_X6_readRule at h ⊢
  intro v1 ev1; replace h := h v1 ev1
  refine ⟨fun hc => ?_, fun hc => ?_⟩
  · replace h := h.1 hc
    refine mf_X6_advance (fun r2 σ3 h gσ3 => ?_) Fr.rf h
    have fσ3 : Fr S_X6_readRule σ0 σ3 := f0.tr gσ3 (mkS_sub (by decide) (by decide))
    refine mf_X6_readPart (fun r4 σ5 h gσ5 => ?_) Fr.rf h
    have fσ5 : Fr S_X6_readRule σ0 σ5 := fσ3.tr gσ5 (mkS_sub (by decide) (by decide))
    refine ⟨h.1, fun σ6 eσ6 => ?_⟩; replace h := h.2 σ6 eσ6; have fσ6 : Fr S_X6_readRule σ0 σ6 := by rw [eσ6]; exact fσ5.up rfl
    refine mf_X6_passSign (fun r7 σ8 h gσ8 => ?_) Fr.rf h
    have fσ8 : Fr S_X6_readRule σ0 σ8 := fσ6.tr gσ8 (mkS_sub (by decide) (by decide))
    refine mf_X6_readPart (fun r9 σ10 h gσ10 => ?_) Fr.rf h
    have fσ10 : Fr S_X6_readRule σ0 σ10 := fσ8.tr gσ10 (mkS_sub (by decide) (by decide))
    refine ⟨h.1, fun σ11 eσ11 => ?_⟩; replace h := h.2 σ11 eσ11; have fσ11 : Fr S_X6_readRule σ0 σ11 := by rw [eσ11]; exact fσ10.up rfl
    refine mf_X6_isLabel (fun r12 σ13 h gσ13 => ?_) Fr.rf h
    have fσ13 : Fr S_X6_readRule σ0 σ13 := fσ11.tr gσ13 (mkS_sub (by decide) (by decide))
    refine ⟨fun hc => ?_, fun hc => ?_⟩
    · replace h := h.1 hc
      exact mf_X6_readRule_b80 hq fσ13 h
    · replace h := h.2 hc
      refine mf_X6_isLetter (fun r14 σ15 h gσ15 => ?_) Fr.rf h
      have fσ15 : Fr S_X6_readRule σ0 σ15 := fσ13.tr gσ15 (mkS_sub (by decide) (by decide))
      refine ⟨fun hc => ?_, fun hc => ?_⟩
      · replace h := h.1 hc
        exact mf_X6_readRule_b89 hq fσ15 h
      · replace h := h.2 hc
        exact mf_X6_readRule_b80 hq fσ15 h
  · replace h := h.2 hc
    refine mf_X6_fail (fun r16 σ17 h gσ17 => ?_) Fr.rf h
    have fσ17 : Fr S_X6_readRule σ0 σ17 := f0.tr gσ17 (mkS_sub (by decide) (by decide))
    exact hq _ _ h fσ17
set_option maxHeartbeats 1000000 in
theorem mf_X6_read_b96 {Q Q' : Int → St → Prop} {σ0 : St} (hq : ∀ (r : Int) (σ1 : St), Q r σ1 → Fr S_X6_read σ0 σ1 → Q' r σ1) {K33 K33' : Int → St → Prop} (hK33 : ∀ (x2 : Int) (σ : St), Fr S_X6_read σ0 σ → K33 x2 σ → K33' x2 σ) {x2 : Int} {σ : St} (f0 : Fr S_X6_read σ0 σ) (h : wp_X6_read_b96 Q K33 x2 σ) : wp_X6_read_b96 Q' K33' x2 σ := by
  unfold wp_X6_read_b96 at h ⊢
  refine mf_X6_passSign (fun r19 σ20 h gσ20 => ?_) Fr.rf h
  have fσ20 : Fr S_X6_read σ0 σ20 := f0.tr gσ20 (mkS_sub (by decide) (by decide))
  intro v21 ev21; replace h := h v21 ev21
  exact hK33 _ _ fσ20 h
set_option maxHeartbeats 1000000 in
theorem mf_X6_read_b91 {Q Q' : Int → St → Prop} {σ0 : St} (hq : ∀ (r : Int) (σ1 : St), Q r σ1 → Fr S_X6_read σ0 σ1 → Q' r σ1) {K33 K33' : Int → St → Prop} (hK33 : ∀ (x2 : Int) (σ : St), Fr S_X6_read σ0 σ → K33 x2 σ → K33' x2 σ) {x2 : Int} {σ : St} (f0 : Fr S_X6_read σ0 σ) (h : wp_X6_read_b91 Q K33 x2 σ) : wp_X6_read_b91 Q' K33' x2 σ := by
  unfold wp_X6_read_b91 at h ⊢
  refine mf_X6_fail (fun r17 σ18 h gσ18 => ?_) Fr.rf h
  have fσ18 : Fr S_X6_read σ0 σ18 := f0.tr gσ18 (mkS_sub (by decide) (by decide))
  exact mf_X6_read_b96 hq hK33 fσ18 h
set_option maxHeartbeats 1000000 in
theorem mf_X6_read_l33 {Q Q' : Int → St → Prop} {σ0 : St} (hq : ∀ (r : Int) (σ1 : St), Q r σ1 → Fr S_X6_read σ0 σ1 → Q' r σ1) : ∀ (n : Nat) (x2 : Int) (σ : St), Fr S_X6_read σ0 σ → wp_X6_read_l33 Q n x2 σ → wp_X6_read_l33 Q' n x2 σ := by
  intro n
  induction n with
  | zero => intro _ _ _ h; exact h.elim
  | succ n ih =>
    intro x2 σ f0 h
    unfold wp_X6_read_l33 at h ⊢
    refine ⟨fun hc => ?_, fun hc => ?_⟩
    · replace h := h.1 hc
      exact hq _ _ h f0
    · replace h := h.2 hc
      refine ⟨fun hc => ?_, fun hc => ?_⟩
      · replace h := h.1 hc
        exact hq _ _ h f0
      · replace h := h.2 hc
        refine ⟨fun hc => ?_, fun hc => ?_⟩
        · replace h := h.1 hc
          exact hq _ _ h f0
        · replace h := h.2 hc
          refine mf_X6_isWord_s0 (fun r9 σ10 h gσ10 => ?_) Fr.rf h
          have fσ10 : Fr S_X6_read σ0 σ10 := f0.tr gσ10 (mkS_sub (by decide) (by decide))
          refine ⟨fun hc => ?_, fun hc => ?_⟩
          · replace h := h.1 hc
            refine ⟨fun hc => ?_, fun hc => ?_⟩
            · replace h := h.1 hc
              exact mf_X6_read_b91 hq ih fσ10 h
            · replace h := h.2 hc
              refine mf_X6_isWord_s3 (fun r11 σ12 h gσ12 => ?_) Fr.rf h
              have fσ12 : Fr S_X6_read σ0 σ12 := fσ10.tr gσ12 (mkS_sub (by decide) (by decide))
              refine ⟨fun hc => ?_, fun hc => ?_⟩
              · replace h := h.1 hc
                exact mf_X6_read_b91 hq ih fσ12 h
              · replace h := h.2 hc
                refine mf_X6_readTable (fun r13 σ14 h gσ14 => ?_) Fr.rf h
                have fσ14 : Fr S_X6_read σ0 σ14 := fσ12.tr gσ14 (mkS_sub (by decide) (by decide))
                exact mf_X6_read_b96 hq ih fσ14 h
          · replace h := h.2 hc
            refine mf_X6_readRule (fun r15 σ16 h gσ16 => ?_) Fr.rf h
            have fσ16 : Fr S_X6_read σ0 σ16 := fσ10.tr gσ16 (mkS_sub (by decide) (by decide))
            exact mf_X6_read_b96 hq ih fσ16 h
set_option maxHeartbeats 1000000 in
theorem mf_X6_read {Q Q' : Int → St → Prop} {σ0 : St} (hq : ∀ (r : Int) (σ1 : St), Q r σ1 → Fr S_X6_read σ0 σ1 → Q' r σ1) {x1 : Int} {σ : St} (f0 : Fr S_X6_read σ0 σ) (h : wp_X6_read x1 σ Q) : wp_X6_read x1 σ Q' := by
  unfold wp_X6_read at h ⊢
  intro σ1 eσ1; replace h := h σ1 eσ1; have fσ1 : Fr S_X6_read σ0 σ1 := by rw [eσ1]; exact f0.up rfl
  intro σ2 eσ2; replace h := h σ2 eσ2; have fσ2 : Fr S_X6_read σ0 σ2 := by rw [eσ2]; exact fσ1.up rfl
  intro σ3 eσ3; replace h := h σ3 eσ3; have fσ3 : Fr S_X6_read σ0 σ3 := by rw [eσ3]; exact fσ2.up rfl
  intro σ4 eσ4; replace h := h σ4 eσ4; have fσ4 : Fr S_X6_read σ0 σ4 := by rw [eσ4]; exact fσ3.up rfl
  refine mf_X4_clear_d (fun r5 σ6 h gσ6 => ?_) Fr.rf h
  have fσ6 : Fr S_X6_read σ0 σ6 := fσ4.tr gσ6 (mkS_sub (by decide) (by decide))
  refine mf_X6_advance (fun r7 σ8 h gσ8 => ?_) Fr.rf h
  have fσ8 : Fr S_X6_read σ0 σ8 := fσ6.tr gσ8 (mkS_sub (by decide) (by decide))
  exact mf_X6_read_l33 hq bigN _ _ fσ8 h
set_option maxHeartbeats 1000000 in
theorem mf_X4_take_c4_l115 {Q Q' : Int → St → Prop} {σ0 : St} (hq : ∀ (r : Int) (σ1 : St), Q r σ1 → Fr S_X4_take_c4 σ0 σ1 → Q' r σ1) : ∀ (n : Nat) (x2 : Int) (σ : St), Fr S_X4_take_c4 σ0 σ → wp_X4_take_c4_l115 Q n x2 σ → wp_X4_take_c4_l115 Q' n x2 σ := by
  intro n
  induction n with
  | zero => intro _ _ _ h; exact h.elim
  | succ n ih =>
    intro x2 σ f0 h
    unfold wp_X4_take_c4_l115 at h ⊢
    refine ⟨fun hc => ?_, fun hc => ?_⟩
    · replace h := h.1 hc
      exact hq _ _ h f0
    · replace h := h.2 hc
      refine ⟨h.1, ?_⟩; replace h := h.2
      refine ⟨h.1, fun σ12 eσ12 => ?_⟩; replace h := h.2 σ12 eσ12; have fσ12 : Fr S_X4_take_c4 σ0 σ12 := by rw [eσ12]; exact f0.up rfl
      refine ⟨h.1, ?_⟩; replace h := h.2
      refine ⟨h.1, fun σ13 eσ13 => ?_⟩; replace h := h.2 σ13 eσ13; have fσ13 : Fr S_X4_take_c4 σ0 σ13 := by rw [eσ13]; exact fσ12.up rfl
      intro v14 ev14; replace h := h v14 ev14
      exact ih _ _ fσ13 h
set_option maxHeartbeats 1000000 in
theorem mf_X4_take_c4_l34 {Q Q' : Int → St → Prop} {σ0 : St} (hq : ∀ (r : Int) (σ1 : St), Q r σ1 → Fr S_X4_take_c4 σ0 σ1 → Q' r σ1) : ∀ (n : Nat) (x2 : Int) (σ : St), Fr S_X4_take_c4 σ0 σ → wp_X4_take_c4_l34 Q n x2 σ → wp_X4_take_c4_l34 Q' n x2 σ := by
  intro n
  induction n with
  | zero => intro _ _ _ h; exact h.elim
  | succ n ih =>
    intro x2 σ f0 h
    unfold wp_X4_take_c4_l34 at h ⊢
    refine ⟨fun hc => ?_, fun hc => ?_⟩
    · replace h := h.1 hc
      exact mf_X4_take_c4_l115 hq bigN _ _ f0 h
    · replace h := h.2 hc
      refine ⟨h.1, ?_⟩; replace h := h.2
      refine ⟨h.1, fun σ5 eσ5 => ?_⟩; replace h := h.2 σ5 eσ5; have fσ5 : Fr S_X4_take_c4 σ0 σ5 := by rw [eσ5]; exact f0.up rfl
      refine ⟨h.1, ?_⟩; replace h := h.2
      refine ⟨h.1, fun σ6 eσ6 => ?_⟩; replace h := h.2 σ6 eσ6; have fσ6 : Fr S_X4_take_c4 σ0 σ6 := by rw [eσ6]; exact fσ5.up rfl
      refine ⟨h.1, ?_⟩; replace h := h.2
      refine ⟨h.1, fun σ7 eσ7 => ?_⟩; replace h := h.2 σ7 eσ7; have fσ7 : Fr S_X4_take_c4 σ0 σ7 := by rw [eσ7]; exact fσ6.up rfl
      refine ⟨h.1, ?_⟩; replace h := h.2
      refine ⟨h.1, fun σ8 eσ8 => ?_⟩; replace h := h.2 σ8 eσ8; have fσ8 : Fr S_X4_take_c4 σ0 σ8 := by rw [eσ8]; exact fσ7.up rfl
      refine ⟨h.1, ?_⟩; replace h := h.2
      refine ⟨h.1, fun σ9 eσ9 => ?_⟩; replace h := h.2 σ9 eσ9; have fσ9 : Fr S_X4_take_c4 σ0 σ9 := by rw [eσ9]; exact fσ8.up rfl
      refine ⟨h.1, fun σ10 eσ10 => ?_⟩; replace h := h.2 σ10 eσ10; have fσ10 : Fr S_X4_take_c4 σ0 σ10 := by rw [eσ10]; exact fσ9.up rfl
      intro v11 ev11; replace h := h v11 ev11
      exact ih _ _ fσ10 h
set_option maxHeartbeats 1000000 in
theorem mf_X4_take_c4 {Q Q' : Int → St → Prop} {σ0 : St} (hq : ∀ (r : Int) (σ1 : St), Q r σ1 → Fr S_X4_take_c4 σ0 σ1 → Q' r σ1) {σ : St} (f0 : Fr S_X4_take_c4 σ0 σ) (h : wp_X4_take_c4  σ Q) : wp_X4_take_c4  σ Q' := by
  unfold wp_X4_take_c4 at h ⊢
  intro σ1 eσ1; replace h := h σ1 eσ1; have fσ1 : Fr S_X4_take_c4 σ0 σ1 := by rw [eσ1]; exact f0.up rfl
  intro σ2 eσ2; replace h := h σ2 eσ2; have fσ2 : Fr S_X4_take_c4 σ0 σ2 := by rw [eσ2]; exact fσ1.up rfl
  intro σ3 eσ3; replace h := h σ3 eσ3; have fσ3 : Fr S_X4_take_c4 σ0 σ3 := by rw [eσ3]; exact fσ2.up rfl
  intro σ4 eσ4; replace h := h σ4 eσ4; have fσ4 : Fr S_X4_take_c4 σ0 σ4 := by rw [eσ4]; exact fσ3.up rfl
  exact mf_X4_take_c4_l34 hq bigN _ _ fσ4 h
set_option maxHeartbeats 1000000 in
theorem mf_X0_forget {Q Q' : Int → St → Prop} {σ0 : St} (hq : ∀ (r : Int) (σ1 : St), Q r σ1 → Fr S_X0_forget σ0 σ1 → Q' r σ1) {σ : St} (f0 : Fr S_X0_forget σ0 σ) (h : wp_X0_forget  σ Q) : wp_X0_forget  σ Q' := by
  unfold wp_X0_forget at h ⊢
  intro σ1 eσ1; replace h := h σ1 eσ1; have fσ1 : Fr S_X0_forget σ0 σ1 := by rw [eσ1]; exact f0.up rfl
  exact hq _ _ h fσ1
set_option maxHeartbeats 1000000 in
theorem mf_X2_forget {Q Q' : Int → St → Prop} {σ0 : St} (hq : ∀ (r : Int) (σ1 : St), Q r σ1 → Fr S_X2_forget σ0 σ1 → Q' r σ1) {σ : St} (f0 : Fr S_X2_forget σ0 σ) (h : wp_X2_forget  σ Q) : wp_X2_forget  σ Q' := by
  unfold wp_X2_forget at h ⊢
  intro σ1 eσ1; replace h := h σ1 eσ1; have fσ1 : Fr S_X2_forget σ0 σ1 := by rw [eσ1]; exact f0.up rfl
  intro σ2 eσ2; replace h := h σ2 eσ2; have fσ2 : Fr S_X2_forget σ0 σ2 := by rw [eσ2]; exact fσ1.up rfl
  intro σ3 eσ3; replace h := h σ3 eσ3; have fσ3 : Fr S_X2_forget σ0 σ3 := by rw [eσ3]; exact fσ2.up rfl
  exact hq _ _ h fσ3
set_option maxHeartbeats 1000000 in
theorem mf_X9_forget {Q Q' : Int → St → Prop} {σ0 : St} (hq : ∀ (r : Int) (σ1 : St), Q r σ1 → Fr S_X9_forget σ0 σ1 → Q' r σ1) {σ : St} (f0 : Fr S_X9_forget σ0 σ) (h : wp_X9_forget  σ Q) : wp_X9_forget  σ Q' := by
  unfold wp_X9_forget at h ⊢
  intro σ1 eσ1; replace h := h σ1 eσ1; have fσ1 : Fr S_X9_forget σ0 σ1 := by rw [eσ1]; exact f0.up rfl
  exact hq _ _ h fσ1
set_option maxHeartbeats 1000000 in
theorem mf_X1_forget {Q Q' : Int → St → Prop} {σ0 : St} (hq : ∀ (r : Int) (σ1 : St), Q r σ1 → Fr S_X1_forget σ0 σ1 → Q' r σ1) {σ : St} (f0 : Fr S_X1_forget σ0 σ) (h : wp_X1_forget  σ Q) : wp_X1_forget  σ Q' := by
  unfold wp_X1_forget at h ⊢
  intro σ1 eσ1; replace h := h σ1 eσ1; have fσ1 : Fr S_X1_forget σ0 σ1 := by rw [eσ1]; exact f0.up rfl
  intro σ2 eσ2; replace h := h σ2 eσ2; have fσ2 : Fr S_X1_forget σ0 σ2 := by rw [eσ2]; exact fσ1.up rfl
  intro σ3 eσ3; replace h := h σ3 eσ3; have fσ3 : Fr S_X1_forget σ0 σ3 := by rw [eσ3]; exact fσ2.up rfl
  exact hq _ _ h fσ3
set_option maxHeartbeats 1000000 in
theorem mf_X7_forget {Q Q' : Int → St → Prop} {σ0 : St} (hq : ∀ (r : Int) (σ1 : St), Q r σ1 → Fr S_X7_forget σ0 σ1 → Q' r σ1) {σ : St} (f0 : Fr S_X7_forget σ0 σ) (h : wp_X7_forget  σ Q) : wp_X7_forget  σ Q' := by
  unfold wp_X7_forget at h ⊢
  intro σ1 eσ1; replace h := h σ1 eσ1; have fσ1 : Fr S_X7_forget σ0 σ1 := by rw [eσ1]; exact f0.up rfl
  exact hq _ _ h fσ1
set_option maxHeartbeats 1000000 in
theorem mf_X3_forget_l2 {Q Q' : Int → St → Prop} {σ0 : St} (hq : ∀ (r : Int) (σ1 : St), Q r σ1 → Fr S_X3_forget σ0 σ1 → Q' r σ1) : ∀ (n : Nat) (x1 : Int) (σ : St), Fr S_X3_forget σ0 σ → wp_X3_forget_l2 Q n x1 σ → wp_X3_forget_l2 Q' n x1 σ := by
  intro n
  induction n with
  | zero => intro _ _ _ h; exact h.elim
  | succ n ih =>
    intro x1 σ f0 h
    unfold wp_X3_forget_l2 at h ⊢
    refine ⟨fun hc => ?_, fun hc => ?_⟩
    · replace h := h.1 hc
      exact hq _ _ h f0
    · replace h := h.2 hc
      refine ⟨h.1, fun σ1 eσ1 => ?_⟩; replace h := h.2 σ1 eσ1; have fσ1 : Fr S_X3_forget σ0 σ1 := by rw [eσ1]; exact f0.up rfl
      intro v2 ev2; replace h := h v2 ev2
      exact ih _ _ fσ1 h
set_option maxHeartbeats 1000000 in
theorem mf_X3_forget {Q Q' : Int → St → Prop} {σ0 : St} (hq : ∀ (r : Int) (σ1 : St), Q r σ1 → Fr S_X3_forget σ0 σ1 → Q' r σ1) {σ : St} (f0 : Fr S_X3_forget σ0 σ) (h : wp_X3_forget  σ Q) : wp_X3_forget  σ Q' := by
  unfold wp_X3_forget at h ⊢
  exact mf_X3_forget_l2 hq bigN _ _ f0 h
set_option maxHeartbeats 1000000 in
theorem mf_J7_fill_53178_C_c77_l5 {Q Q' : Int → St → Prop} {σ0 : St} (hq : ∀ (r : Int) (σ1 : St), Q r σ1 → Fr S_J7_fill_53178_C_c77 σ0 σ1 → Q' r σ1) : ∀ (n : Nat) (x1 : Int) (x2 : Int) (x3 : Int) (σ : St), Fr S_J7_fill_53178_C_c77 σ0 σ → wp_J7_fill_53178_C_c77_l5 Q n x1 x2 x3 σ → wp_J7_fill_53178_C_c77_l5 Q' n x1 x2 x3 σ := by
  intro n
  induction n with
  | zero => intro _ _ _ _ _ h; exact h.elim
  | succ n ih =>
    intro x1 x2 x3 σ f0 h
    unfold wp_J7_fill_53178_C_c77_l5 at h ⊢
    refine ⟨fun hc => ?_, fun hc => ?_⟩
    · replace h := h.1 hc
      exact hq _ _ h f0
    · replace h := h.2 hc
      refine ⟨h.1, fun σ1 eσ1 => ?_⟩; replace h := h.2 σ1 eσ1; have fσ1 : Fr S_J7_fill_53178_C_c77 σ0 σ1 := by rw [eσ1]; exact f0.up rfl
      intro v2 ev2; replace h := h v2 ev2
      exact ih _ _ _ _ fσ1 h
set_option maxHeartbeats 1000000 in
theorem mf_J7_fill_53178_C_c77 {Q Q' : Int → St → Prop} {σ0 : St} (hq : ∀ (r : Int) (σ1 : St), Q r σ1 → Fr S_J7_fill_53178_C_c77 σ0 σ1 → Q' r σ1) {x1 : Int} {σ : St} (f0 : Fr S_J7_fill_53178_C_c77 σ0 σ) (h : wp_J7_fill_53178_C_c77 x1 σ Q) : wp_J7_fill_53178_C_c77 x1 σ Q' := by
  unfold wp_J7_fill_53178_C_c77 at h ⊢
  exact mf_J7_fill_53178_C_c77_l5 hq bigN _ _ _ _ f0 h
set_option maxHeartbeats 1000000 in
theorem mf_J7_fill_53178_C_c78_l5 {Q Q' : Int → St → Prop} {σ0 : St} (hq : ∀ (r : Int) (σ1 : St), Q r σ1 → Fr S_J7_fill_53178_C_c78 σ0 σ1 → Q' r σ1) : ∀ (n : Nat) (x1 : Int) (x2 : Int) (x3 : Int) (σ : St), Fr S_J7_fill_53178_C_c78 σ0 σ → wp_J7_fill_53178_C_c78_l5 Q n x1 x2 x3 σ → wp_J7_fill_53178_C_c78_l5 Q' n x1 x2 x3 σ := by
  intro n
  induction n with
  | zero => intro _ _ _ _ _ h; exact h.elim
  | succ n ih =>
    intro x1 x2 x3 σ f0 h
    unfold wp_J7_fill_53178_C_c78_l5 at h ⊢
    refine ⟨fun hc => ?_, fun hc => ?_⟩
    · replace h := h.1 hc
      exact hq _ _ h f0
    · replace h := h.2 hc
      refine ⟨h.1, fun σ1 eσ1 => ?_⟩; replace h := h.2 σ1 eσ1; have fσ1 : Fr S_J7_fill_53178_C_c78 σ0 σ1 := by rw [eσ1]; exact f0.up rfl
      intro v2 ev2; replace h := h v2 ev2
      exact ih _ _ _ _ fσ1 h
set_option maxHeartbeats 1000000 in
theorem mf_J7_fill_53178_C_c78 {Q Q' : Int → St → Prop} {σ0 : St} (hq : ∀ (r : Int) (σ1 : St), Q r σ1 → Fr S_J7_fill_53178_C_c78 σ0 σ1 → Q' r σ1) {x1 : Int} {σ : St} (f0 : Fr S_J7_fill_53178_C_c78 σ0 σ) (h : wp_J7_fill_53178_C_c78 x1 σ Q) : wp_J7_fill_53178_C_c78 x1 σ Q' := by
  unfold wp_J7_fill_53178_C_c78 at h ⊢
  exact mf_J7_fill_53178_C_c78_l5 hq bigN _ _ _ _ f0 h
set_option maxHeartbeats 1000000 in
theorem mf_J7_fill_d0a16_C_c79_l6 {Q Q' : Int → St → Prop} {σ0 : St} (hq : ∀ (r : Int) (σ1 : St), Q r σ1 → Fr S_J7_fill_d0a16_C_c79 σ0 σ1 → Q' r σ1) : ∀ (n : Nat) (x1 : Int) (x3 : Int) (x4 : Int) (σ : St), Fr S_J7_fill_d0a16_C_c79 σ0 σ → wp_J7_fill_d0a16_C_c79_l6 Q n x1 x3 x4 σ → wp_J7_fill_d0a16_C_c79_l6 Q' n x1 x3 x4 σ := by
  intro n
  induction n with
  | zero => intro _ _ _ _ _ h; exact h.elim
  | succ n ih =>
    intro x1 x3 x4 σ f0 h
    unfold wp_J7_fill_d0a16_C_c79_l6 at h ⊢
    refine ⟨fun hc => ?_, fun hc => ?_⟩
    · replace h := h.1 hc
      exact hq _ _ h f0
    · replace h := h.2 hc
      refine ⟨h.1, fun σ1 eσ1 => ?_⟩; replace h := h.2 σ1 eσ1; have fσ1 : Fr S_J7_fill_d0a16_C_c79 σ0 σ1 := by rw [eσ1]; exact f0.up rfl
      intro v2 ev2; replace h := h v2 ev2
      exact ih _ _ _ _ fσ1 h
set_option maxHeartbeats 1000000 in
theorem mf_J7_fill_d0a16_C_c79 {Q Q' : Int → St → Prop} {σ0 : St} (hq : ∀ (r : Int) (σ1 : St), Q r σ1 → Fr S_J7_fill_d0a16_C_c79 σ0 σ1 → Q' r σ1) {x1 : Int} {σ : St} (f0 : Fr S_J7_fill_d0a16_C_c79 σ0 σ) (h : wp_J7_fill_d0a16_C_c79 x1 σ Q) : wp_J7_fill_d0a16_C_c79 x1 σ Q' := by
  unfold wp_J7_fill_d0a16_C_c79 at h ⊢
  exact mf_J7_fill_d0a16_C_c79_l6 hq bigN _ _ _ _ f0 h
set_option maxHeartbeats 1000000 in
theorem mf_X8_forget {Q Q' : Int → St → Prop} {σ0 : St} (hq : ∀ (r : Int) (σ1 : St), Q r σ1 → Fr S_X8_forget σ0 σ1 → Q' r σ1) {σ : St} (f0 : Fr S_X8_forget σ0 σ) (h : wp_X8_forget  σ Q) : wp_X8_forget  σ Q' := by
  unfold wp_X8_forget at h ⊢
  refine mf_J7_fill_53178_C_c77 (fun r1 σ2 h gσ2 => ?_) Fr.rf h
  have fσ2 : Fr S_X8_forget σ0 σ2 := f0.tr gσ2 (mkS_sub (by decide) (by decide))
  refine mf_J7_fill_53178_C_c78 (fun r3 σ4 h gσ4 => ?_) Fr.rf h
  have fσ4 : Fr S_X8_forget σ0 σ4 := fσ2.tr gσ4 (mkS_sub (by decide) (by decide))
  refine mf_J7_fill_d0a16_C_c79 (fun r5 σ6 h gσ6 => ?_) Fr.rf h
  have fσ6 : Fr S_X8_forget σ0 σ6 := fσ4.tr gσ6 (mkS_sub (by decide) (by decide))
  exact hq _ _ h fσ6
set_option maxHeartbeats 1000000 in
theorem mf_X5_forget {Q Q' : Int → St → Prop} {σ0 : St} (hq : ∀ (r : Int) (σ1 : St), Q r σ1 → Fr S_X5_forget σ0 σ1 → Q' r σ1) {σ : St} (f0 : Fr S_X5_forget σ0 σ) (h : wp_X5_forget  σ Q) : wp_X5_forget  σ Q' := by
  unfold wp_X5_forget at h ⊢
  intro σ1 eσ1; replace h := h σ1 eσ1; have fσ1 : Fr S_X5_forget σ0 σ1 := by rw [eσ1]; exact f0.up rfl
  exact hq _ _ h fσ1
set_option maxHeartbeats 1000000 in
theorem mf_X11_forgetCosts {Q Q' : Int → St → Prop} {σ0 : St} (hq : ∀ (r : Int) (σ1 : St), Q r σ1 → Fr S_X11_forgetCosts σ0 σ1 → Q' r σ1) {σ : St} (f0 : Fr S_X11_forgetCosts σ0 σ) (h : wp_X11_forgetCosts  σ Q) : wp_X11_forgetCosts  σ Q' := by
  unfold wp_X11_forgetCosts at h ⊢
  refine mf_X1_forget (fun r1 σ2 h gσ2 => ?_) Fr.rf h
  have fσ2 : Fr S_X11_forgetCosts σ0 σ2 := f0.tr gσ2 (mkS_sub (by decide) (by decide))
  refine mf_X7_forget (fun r3 σ4 h gσ4 => ?_) Fr.rf h
  have fσ4 : Fr S_X11_forgetCosts σ0 σ4 := fσ2.tr gσ4 (mkS_sub (by decide) (by decide))
  refine mf_X3_forget (fun r5 σ6 h gσ6 => ?_) Fr.rf h
  have fσ6 : Fr S_X11_forgetCosts σ0 σ6 := fσ4.tr gσ6 (mkS_sub (by decide) (by decide))
  refine mf_X8_forget (fun r7 σ8 h gσ8 => ?_) Fr.rf h
  have fσ8 : Fr S_X11_forgetCosts σ0 σ8 := fσ6.tr gσ8 (mkS_sub (by decide) (by decide))
  refine mf_X5_forget (fun r9 σ10 h gσ10 => ?_) Fr.rf h
  have fσ10 : Fr S_X11_forgetCosts σ0 σ10 := fσ8.tr gσ10 (mkS_sub (by decide) (by decide))
  exact hq _ _ h fσ10
set_option maxHeartbeats 1000000 in
theorem mf_X11_forgetCases {Q Q' : Int → St → Prop} {σ0 : St} (hq : ∀ (r : Int) (σ1 : St), Q r σ1 → Fr S_X11_forgetCases σ0 σ1 → Q' r σ1) {σ : St} (f0 : Fr S_X11_forgetCases σ0 σ) (h : wp_X11_forgetCases  σ Q) : wp_X11_forgetCases  σ Q' := by
  unfold wp_X11_forgetCases at h ⊢
  refine mf_X0_forget (fun r1 σ2 h gσ2 => ?_) Fr.rf h
  have fσ2 : Fr S_X11_forgetCases σ0 σ2 := f0.tr gσ2 (mkS_sub (by decide) (by decide))
  refine mf_X2_forget (fun r3 σ4 h gσ4 => ?_) Fr.rf h
  have fσ4 : Fr S_X11_forgetCases σ0 σ4 := fσ2.tr gσ4 (mkS_sub (by decide) (by decide))
  refine mf_X9_forget (fun r5 σ6 h gσ6 => ?_) Fr.rf h
  have fσ6 : Fr S_X11_forgetCases σ0 σ6 := fσ4.tr gσ6 (mkS_sub (by decide) (by decide))
  refine mf_X11_forgetCosts (fun r7 σ8 h gσ8 => ?_) Fr.rf h
  have fσ8 : Fr S_X11_forgetCases σ0 σ8 := fσ6.tr gσ8 (mkS_sub (by decide) (by decide))
  exact hq _ _ h fσ8
set_option maxHeartbeats 1000000 in
theorem mf_X11_grammar {Q Q' : Int → St → Prop} {σ0 : St} (hq : ∀ (r : Int) (σ1 : St), Q r σ1 → Fr S_X11_grammar σ0 σ1 → Q' r σ1) {σ : St} (f0 : Fr S_X11_grammar σ0 σ) (h : wp_X11_grammar  σ Q) : wp_X11_grammar  σ Q' := by
  unfold wp_X11_grammar at h ⊢
  refine mf_X6_read (fun r1 σ2 h gσ2 => ?_) Fr.rf h
  have fσ2 : Fr S_X11_grammar σ0 σ2 := f0.tr gσ2 (mkS_sub (by decide) (by decide))
  intro σ3 eσ3; replace h := h σ3 eσ3; have fσ3 : Fr S_X11_grammar σ0 σ3 := by rw [eσ3]; exact fσ2.up rfl
  refine ⟨fun hc => ?_, fun hc => ?_⟩
  · replace h := h.1 hc
    refine mf_X4_take_c4 (fun r4 σ5 h gσ5 => ?_) Fr.rf h
    have fσ5 : Fr S_X11_grammar σ0 σ5 := fσ3.tr gσ5 (mkS_sub (by decide) (by decide))
    refine mf_X11_forgetCases (fun r6 σ7 h gσ7 => ?_) Fr.rf h
    have fσ7 : Fr S_X11_grammar σ0 σ7 := fσ5.tr gσ7 (mkS_sub (by decide) (by decide))
    exact hq _ _ h fσ7
  · replace h := h.2 hc
    exact hq _ _ h fσ3
set_option maxHeartbeats 1000000 in
theorem mf_X11_fault {Q Q' : Int → St → Prop} {σ0 : St} (hq : ∀ (r : Int) (σ1 : St), Q r σ1 → Fr S_X11_fault σ0 σ1 → Q' r σ1) {x1 : Int} {σ : St} (f0 : Fr S_X11_fault σ0 σ) (h : wp_X11_fault x1 σ Q) : wp_X11_fault x1 σ Q' := by
  unfold wp_X11_fault at h ⊢
  refine ⟨fun hs0 => ?_, fun hs1 => ?_, fun hs2 => ?_⟩
  · replace h := h.1 hs0
    exact hq _ _ h f0
  · replace h := h.2.1 hs1
    exact hq _ _ h f0
  · replace h := h.2.2 hs2
    exact hq _ _ h f0
set_option maxHeartbeats 1000000 in
theorem mf_X11_lettersAlone_l2 {Q Q' : Int → St → Prop} {σ0 : St} (hq : ∀ (r : Int) (σ1 : St), Q r σ1 → Fr S_X11_lettersAlone σ0 σ1 → Q' r σ1) : ∀ (n : Nat) (x1 : Int) (x2 : Int) (σ : St), Fr S_X11_lettersAlone σ0 σ → wp_X11_lettersAlone_l2 Q n x1 x2 σ → wp_X11_lettersAlone_l2 Q' n x1 x2 σ := by
  intro n
  induction n with
  | zero => intro _ _ _ _ h; exact h.elim
  | succ n ih =>
    intro x1 x2 σ f0 h
    unfold wp_X11_lettersAlone_l2 at h ⊢
    refine ⟨fun hc => ?_, fun hc => ?_⟩
    · replace h := h.1 hc
      exact hq _ _ h f0
    · replace h := h.2 hc
      refine ⟨h.1, ?_⟩; replace h := h.2
      refine mf_X6_isSmall (fun r1 σ2 h gσ2 => ?_) Fr.rf h
      have fσ2 : Fr S_X11_lettersAlone σ0 σ2 := f0.tr gσ2 (mkS_sub (by decide) (by decide))
      refine ⟨fun hc => ?_, fun hc => ?_⟩
      · replace h := h.1 hc
        intro v3 ev3; replace h := h v3 ev3
        exact ih _ _ _ fσ2 h
      · replace h := h.2 hc
        exact hq _ _ h fσ2
set_option maxHeartbeats 1000000 in
theorem mf_X11_lettersAlone {Q Q' : Int → St → Prop} {σ0 : St} (hq : ∀ (r : Int) (σ1 : St), Q r σ1 → Fr S_X11_lettersAlone σ0 σ1 → Q' r σ1) {x1 : Int} {σ : St} (f0 : Fr S_X11_lettersAlone σ0 σ) (h : wp_X11_lettersAlone x1 σ Q) : wp_X11_lettersAlone x1 σ Q' := by
  unfold wp_X11_lettersAlone at h ⊢
  exact mf_X11_lettersAlone_l2 hq bigN _ _ _ f0 h
set_option maxHeartbeats 1000000 in
theorem mf_X0_hear_c1_l17 {Q Q' : Int → St → Prop} {σ0 : St} (hq : ∀ (r : Int) (σ1 : St), Q r σ1 → Fr S_X0_hear_c1 σ0 σ1 → Q' r σ1) : ∀ (n : Nat) (x3 : Int) (σ : St), Fr S_X0_hear_c1 σ0 σ → wp_X0_hear_c1_l17 Q n x3 σ → wp_X0_hear_c1_l17 Q' n x3 σ := by
  intro n
  induction n with
  | zero => intro _ _ _ h; exact h.elim
  | succ n ih =>
    intro x3 σ f0 h
    unfold wp_X0_hear_c1_l17 at h ⊢
    refine ⟨fun hc => ?_, fun hc => ?_⟩
    · replace h := h.1 hc
      exact hq _ _ h f0
    · replace h := h.2 hc
      refine ⟨h.1, ?_⟩; replace h := h.2
      refine ⟨h.1, fun σ2 eσ2 => ?_⟩; replace h := h.2 σ2 eσ2; have fσ2 : Fr S_X0_hear_c1 σ0 σ2 := by rw [eσ2]; exact f0.up rfl
      intro v3 ev3; replace h := h v3 ev3
      exact ih _ _ fσ2 h
set_option maxHeartbeats 1000000 in
theorem mf_X0_hear_c1 {Q Q' : Int → St → Prop} {σ0 : St} (hq : ∀ (r : Int) (σ1 : St), Q r σ1 → Fr S_X0_hear_c1 σ0 σ1 → Q' r σ1) {x2 : Int} {σ : St} (f0 : Fr S_X0_hear_c1 σ0 σ) (h : wp_X0_hear_c1 x2 σ Q) : wp_X0_hear_c1 x2 σ Q' := by
  unfold wp_X0_hear_c1 at h ⊢
  intro σ1 eσ1; replace h := h σ1 eσ1; have fσ1 : Fr S_X0_hear_c1 σ0 σ1 := by rw [eσ1]; exact f0.up rfl
  exact mf_X0_hear_c1_l17 hq bigN _ _ fσ1 h
set_option maxHeartbeats 1000000 in
theorem mf_X11_say {Q Q' : Int → St → Prop} {σ0 : St} (hq : ∀ (r : Int) (σ1 : St), Q r σ1 → Fr S_X11_say σ0 σ1 → Q' r σ1) {σ : St} (f0 : Fr S_X11_say σ0 σ) (h : wp_X11_say  σ Q) : wp_X11_say  σ Q' := by
  unfold wp_X11_say at h ⊢
  intro v1 ev1; replace h := h v1 ev1
  intro σ2 eσ2; replace h := h σ2 eσ2; have fσ2 : Fr S_X11_say σ0 σ2 := by rw [eσ2]; exact f0.up rfl
  refine ⟨fun hc => ?_, fun hc => ?_⟩
  · replace h := h.1 hc
    exact hq _ _ h fσ2
  · replace h := h.2 hc
    refine mf_X11_lettersAlone (fun r3 σ4 h gσ4 => ?_) Fr.rf h
    have fσ4 : Fr S_X11_say σ0 σ4 := fσ2.tr gσ4 (mkS_sub (by decide) (by decide))
    refine ⟨fun hc => ?_, fun hc => ?_⟩
    · replace h := h.1 hc
      refine mf_X0_hear_c1 (fun r5 σ6 h gσ6 => ?_) Fr.rf h
      have fσ6 : Fr S_X11_say σ0 σ6 := fσ4.tr gσ6 (mkS_sub (by decide) (by decide))
      refine mf_X11_forgetCases (fun r7 σ8 h gσ8 => ?_) Fr.rf h
      have fσ8 : Fr S_X11_say σ0 σ8 := fσ6.tr gσ8 (mkS_sub (by decide) (by decide))
      exact hq _ _ h fσ8
    · replace h := h.2 hc
      exact hq _ _ h fσ4
set_option maxHeartbeats 1000000 in
theorem mf_X4_start {Q Q' : Int → St → Prop} {σ0 : St} (hq : ∀ (r : Int) (σ1 : St), Q r σ1 → Fr S_X4_start σ0 σ1 → Q' r σ1) {σ : St} (f0 : Fr S_X4_start σ0 σ) (h : wp_X4_start  σ Q) : wp_X4_start  σ Q' := by
  unfold wp_X4_start at h ⊢
  refine ⟨fun hc => ?_, fun hc => ?_⟩
  · replace h := h.1 hc
    exact hq _ _ h f0
  · replace h := h.2 hc
    exact hq _ _ h f0
set_option maxHeartbeats 1000000 in
theorem mf_X0_layOutSpans_l17 {Q Q' : Int → St → Prop} {σ0 : St} (hq : ∀ (r : Int) (σ1 : St), Q r σ1 → Fr S_X0_layOutSpans σ0 σ1 → Q' r σ1) {K7 K7' : Int → St → Prop} (hK7 : ∀ (x1 : Int) (σ : St), Fr S_X0_layOutSpans σ0 σ → K7 x1 σ → K7' x1 σ) : ∀ (n : Nat) (x1 : Int) (x2 : Int) (σ : St), Fr S_X0_layOutSpans σ0 σ → wp_X0_layOutSpans_l17 Q K7 n x1 x2 σ → wp_X0_layOutSpans_l17 Q' K7' n x1 x2 σ := by
  intro n
  induction n with
  | zero => intro _ _ _ _ h; exact h.elim
  | succ n ih =>
    intro x1 x2 σ f0 h
    unfold wp_X0_layOutSpans_l17 at h ⊢
    refine ⟨fun hc => ?_, fun hc => ?_⟩
    · replace h := h.1 hc
      intro v2 ev2; replace h := h v2 ev2
      exact hK7 _ _ f0 h
    · replace h := h.2 hc
      refine ⟨h.1, fun σ3 eσ3 => ?_⟩; replace h := h.2 σ3 eσ3; have fσ3 : Fr S_X0_layOutSpans σ0 σ3 := by rw [eσ3]; exact f0.up rfl
      refine ⟨h.1, fun σ4 eσ4 => ?_⟩; replace h := h.2 σ4 eσ4; have fσ4 : Fr S_X0_layOutSpans σ0 σ4 := by rw [eσ4]; exact fσ3.up rfl
      refine ⟨h.1, fun σ5 eσ5 => ?_⟩; replace h := h.2 σ5 eσ5; have fσ5 : Fr S_X0_layOutSpans σ0 σ5 := by rw [eσ5]; exact fσ4.up rfl
      intro σ6 eσ6; replace h := h σ6 eσ6; have fσ6 : Fr S_X0_layOutSpans σ0 σ6 := by rw [eσ6]; exact fσ5.up rfl
      intro v7 ev7; replace h := h v7 ev7
      exact ih _ _ _ fσ6 h
set_option maxHeartbeats 1000000 in
theorem mf_X0_layOutSpans_l7 {Q Q' : Int → St → Prop} {σ0 : St} (hq : ∀ (r : Int) (σ1 : St), Q r σ1 → Fr S_X0_layOutSpans σ0 σ1 → Q' r σ1) : ∀ (n : Nat) (x1 : Int) (σ : St), Fr S_X0_layOutSpans σ0 σ → wp_X0_layOutSpans_l7 Q n x1 σ → wp_X0_layOutSpans_l7 Q' n x1 σ := by
  intro n
  induction n with
  | zero => intro _ _ _ h; exact h.elim
  | succ n ih =>
    intro x1 σ f0 h
    unfold wp_X0_layOutSpans_l7 at h ⊢
    refine ⟨fun hc => ?_, fun hc => ?_⟩
    · replace h := h.1 hc
      exact hq _ _ h f0
    · replace h := h.2 hc
      exact mf_X0_layOutSpans_l17 hq ih bigN _ _ _ f0 h
set_option maxHeartbeats 1000000 in
theorem mf_X0_layOutSpans {Q Q' : Int → St → Prop} {σ0 : St} (hq : ∀ (r : Int) (σ1 : St), Q r σ1 → Fr S_X0_layOutSpans σ0 σ1 → Q' r σ1) {σ : St} (f0 : Fr S_X0_layOutSpans σ0 σ) (h : wp_X0_layOutSpans  σ Q) : wp_X0_layOutSpans  σ Q' := by
  unfold wp_X0_layOutSpans at h ⊢
  intro σ1 eσ1; replace h := h σ1 eσ1; have fσ1 : Fr S_X0_layOutSpans σ0 σ1 := by rw [eσ1]; exact f0.up rfl
  exact mf_X0_layOutSpans_l7 hq bigN _ _ fσ1 h
set_option maxHeartbeats 1000000 in
theorem mf_X4_isUnary_b25 {Q Q' : Int → St → Prop} {σ0 : St} (hq : ∀ (r : Int) (σ1 : St), Q r σ1 → Fr S_X4_isUnary σ0 σ1 → Q' r σ1) {σ : St} (f0 : Fr S_X4_isUnary σ0 σ) (h : wp_X4_isUnary_b25 Q  σ) : wp_X4_isUnary_b25 Q'  σ := by
  unfold wp_X4_isUnary_b25 at h ⊢
  exact hq _ _ h f0
set_option maxHeartbeats 1000000 in
theorem mf_X4_isUnary {Q Q' : Int → St → Prop} {σ0 : St} (hq : ∀ (r : Int) (σ1 : St), Q r σ1 → Fr S_X4_isUnary σ0 σ1 → Q' r σ1) {x1 : Int} {σ : St} (f0 : Fr S_X4_isUnary σ0 σ) (h : wp_X4_isUnary x1 σ Q) : wp_X4_isUnary x1 σ Q' := by
  unfold wp_X4_isUnary at h ⊢
  refine ⟨h.1, ?_⟩; replace h := h.2
  refine ⟨fun hc => ?_, fun hc => ?_⟩
  · replace h := h.1 hc
    exact mf_X4_isUnary_b25 hq f0 h
  · replace h := h.2 hc
    refine ⟨h.1, ?_⟩; replace h := h.2
    refine ⟨fun hc => ?_, fun hc => ?_⟩
    · replace h := h.1 hc
      exact mf_X4_isUnary_b25 hq f0 h
    · replace h := h.2 hc
      exact hq _ _ h f0
set_option maxHeartbeats 1000000 in
theorem mf_X0_gatherLive_b107 {Q Q' : Int → St → Prop} {σ0 : St} (hq : ∀ (r : Int) (σ1 : St), Q r σ1 → Fr S_X0_gatherLive σ0 σ1 → Q' r σ1) {K12 K12' : Int → St → Prop} (hK12 : ∀ (x1 : Int) (σ : St), Fr S_X0_gatherLive σ0 σ → K12 x1 σ → K12' x1 σ) {K20 K20' : Int → Int → St → Prop} (hK20 : ∀ (x1 : Int) (x2 : Int) (σ : St), Fr S_X0_gatherLive σ0 σ → K20 x1 x2 σ → K20' x1 x2 σ) {x1 x2 : Int} {σ : St} (f0 : Fr S_X0_gatherLive σ0 σ) (h : wp_X0_gatherLive_b107 Q K12 K20 x1 x2 σ) : wp_X0_gatherLive_b107 Q' K12' K20' x1 x2 σ := by
  unfold wp_X0_gatherLive_b107 at h ⊢
  intro v10 ev10; replace h := h v10 ev10
  exact hK20 _ _ _ f0 h
set_option maxHeartbeats 1000000 in
theorem mf_X0_gatherLive_l20 {Q Q' : Int → St → Prop} {σ0 : St} (hq : ∀ (r : Int) (σ1 : St), Q r σ1 → Fr S_X0_gatherLive σ0 σ1 → Q' r σ1) {K12 K12' : Int → St → Prop} (hK12 : ∀ (x1 : Int) (σ : St), Fr S_X0_gatherLive σ0 σ → K12 x1 σ → K12' x1 σ) : ∀ (n : Nat) (x1 : Int) (x2 : Int) (σ : St), Fr S_X0_gatherLive σ0 σ → wp_X0_gatherLive_l20 Q K12 n x1 x2 σ → wp_X0_gatherLive_l20 Q' K12' n x1 x2 σ := by
  intro n
  induction n with
  | zero => intro _ _ _ _ h; exact h.elim
  | succ n ih =>
    intro x1 x2 σ f0 h
    unfold wp_X0_gatherLive_l20 at h ⊢
    refine ⟨fun hc => ?_, fun hc => ?_⟩
    · replace h := h.1 hc
      intro v3 ev3; replace h := h v3 ev3
      exact hK12 _ _ f0 h
    · replace h := h.2 hc
      refine ⟨h.1, ?_⟩; replace h := h.2
      refine ⟨fun hc => ?_, fun hc => ?_⟩
      · replace h := h.1 hc
        exact mf_X0_gatherLive_b107 hq hK12 ih f0 h
      · replace h := h.2 hc
        refine ⟨h.1, ?_⟩; replace h := h.2
        refine ⟨fun hc => ?_, fun hc => ?_⟩
        · replace h := h.1 hc
          exact mf_X0_gatherLive_b107 hq hK12 ih f0 h
        · replace h := h.2 hc
          refine ⟨h.1, fun σ4 eσ4 => ?_⟩; replace h := h.2 σ4 eσ4; have fσ4 : Fr S_X0_gatherLive σ0 σ4 := by rw [eσ4]; exact f0.up rfl
          intro σ5 eσ5; replace h := h σ5 eσ5; have fσ5 : Fr S_X0_gatherLive σ0 σ5 := by rw [eσ5]; exact fσ4.up rfl
          refine mf_X4_isUnary (fun r6 σ7 h gσ7 => ?_) Fr.rf h
          have fσ7 : Fr S_X0_gatherLive σ0 σ7 := fσ5.tr gσ7 (mkS_sub (by decide) (by decide))
          refine ⟨fun hc => ?_, fun hc => ?_⟩
          · replace h := h.1 hc
            exact mf_X0_gatherLive_b107 hq hK12 ih fσ7 h
          · replace h := h.2 hc
            refine ⟨h.1, fun σ8 eσ8 => ?_⟩; replace h := h.2 σ8 eσ8; have fσ8 : Fr S_X0_gatherLive σ0 σ8 := by rw [eσ8]; exact fσ7.up rfl
            intro σ9 eσ9; replace h := h σ9 eσ9; have fσ9 : Fr S_X0_gatherLive σ0 σ9 := by rw [eσ9]; exact fσ8.up rfl
            exact mf_X0_gatherLive_b107 hq hK12 ih fσ9 h
set_option maxHeartbeats 1000000 in
theorem mf_X0_gatherLive_l12 {Q Q' : Int → St → Prop} {σ0 : St} (hq : ∀ (r : Int) (σ1 : St), Q r σ1 → Fr S_X0_gatherLive σ0 σ1 → Q' r σ1) : ∀ (n : Nat) (x1 : Int) (σ : St), Fr S_X0_gatherLive σ0 σ → wp_X0_gatherLive_l12 Q n x1 σ → wp_X0_gatherLive_l12 Q' n x1 σ := by
  intro n
  induction n with
  | zero => intro _ _ _ h; exact h.elim
  | succ n ih =>
    intro x1 σ f0 h
    unfold wp_X0_gatherLive_l12 at h ⊢
    refine ⟨fun hc => ?_, fun hc => ?_⟩
    · replace h := h.1 hc
      exact hq _ _ h f0
    · replace h := h.2 hc
      exact mf_X0_gatherLive_l20 hq ih bigN _ _ _ f0 h
set_option maxHeartbeats 1000000 in
theorem mf_X0_gatherLive {Q Q' : Int → St → Prop} {σ0 : St} (hq : ∀ (r : Int) (σ1 : St), Q r σ1 → Fr S_X0_gatherLive σ0 σ1 → Q' r σ1) {σ : St} (f0 : Fr S_X0_gatherLive σ0 σ) (h : wp_X0_gatherLive  σ Q) : wp_X0_gatherLive  σ Q' := by
  unfold wp_X0_gatherLive at h ⊢
  intro σ1 eσ1; replace h := h σ1 eσ1; have fσ1 : Fr S_X0_gatherLive σ0 σ1 := by rw [eσ1]; exact f0.up rfl
  intro σ2 eσ2; replace h := h σ2 eσ2; have fσ2 : Fr S_X0_gatherLive σ0 σ2 := by rw [eσ2]; exact fσ1.up rfl
  exact mf_X0_gatherLive_l12 hq bigN _ _ fσ2 h
set_option maxHeartbeats 1000000 in
theorem mf_X0_partOver_b47 {Q Q' : Int → St → Prop} {σ0 : St} (hq : ∀ (r : Int) (σ1 : St), Q r σ1 → Fr S_X0_partOver σ0 σ1 → Q' r σ1) {σ : St} (f0 : Fr S_X0_partOver σ0 σ) (h : wp_X0_partOver_b47 Q  σ) : wp_X0_partOver_b47 Q'  σ := by
  unfold wp_X0_partOver_b47 at h ⊢
  exact hq _ _ h f0
set_option maxHeartbeats 1000000 in
theorem mf_X0_partOver {Q Q' : Int → St → Prop} {σ0 : St} (hq : ∀ (r : Int) (σ1 : St), Q r σ1 → Fr S_X0_partOver σ0 σ1 → Q' r σ1) {x1 x2 x3 : Int} {σ : St} (f0 : Fr S_X0_partOver σ0 σ) (h : wp_X0_partOver x1 x2 x3 σ Q) : wp_X0_partOver x1 x2 x3 σ Q' := by
  unfold wp_X0_partOver at h ⊢
  refine ⟨fun hc => ?_, fun hc => ?_⟩
  · replace h := h.1 hc
    refine ⟨fun hc => ?_, fun hc => ?_⟩
    · replace h := h.1 hc
      exact mf_X0_partOver_b47 hq f0 h
    · replace h := h.2 hc
      refine ⟨h.1, ?_⟩; replace h := h.2
      refine ⟨fun hc => ?_, fun hc => ?_⟩
      · replace h := h.1 hc
        exact mf_X0_partOver_b47 hq f0 h
      · replace h := h.2 hc
        exact hq _ _ h f0
  · replace h := h.2 hc
    refine ⟨h.1, ?_⟩; replace h := h.2
    exact hq _ _ h f0
set_option maxHeartbeats 1000000 in
theorem mf_X0_addCase {Q Q' : Int → St → Prop} {σ0 : St} (hq : ∀ (r : Int) (σ1 : St), Q r σ1 → Fr S_X0_addCase σ0 σ1 → Q' r σ1) {x1 x2 x3 x4 : Int} {σ : St} (f0 : Fr S_X0_addCase σ0 σ) (h : wp_X0_addCase x1 x2 x3 x4 σ Q) : wp_X0_addCase x1 x2 x3 x4 σ Q' := by
  unfold wp_X0_addCase at h ⊢
  refine ⟨fun hc => ?_, fun hc => ?_⟩
  · replace h := h.1 hc
    exact hq _ _ h f0
  · replace h := h.2 hc
    refine ⟨fun hc => ?_, fun hc => ?_⟩
    · replace h := h.1 hc
      exact hq _ _ h f0
    · replace h := h.2 hc
      refine ⟨fun hc => ?_, fun hc => ?_⟩
      · replace h := h.1 hc
        refine ⟨h.1, fun σ1 eσ1 => ?_⟩; replace h := h.2 σ1 eσ1; have fσ1 : Fr S_X0_addCase σ0 σ1 := by rw [eσ1]; exact f0.up rfl
        refine ⟨h.1, fun σ2 eσ2 => ?_⟩; replace h := h.2 σ2 eσ2; have fσ2 : Fr S_X0_addCase σ0 σ2 := by rw [eσ2]; exact fσ1.up rfl
        refine ⟨h.1, fun σ3 eσ3 => ?_⟩; replace h := h.2 σ3 eσ3; have fσ3 : Fr S_X0_addCase σ0 σ3 := by rw [eσ3]; exact fσ2.up rfl
        refine ⟨h.1, fun σ4 eσ4 => ?_⟩; replace h := h.2 σ4 eσ4; have fσ4 : Fr S_X0_addCase σ0 σ4 := by rw [eσ4]; exact fσ3.up rfl
        intro σ5 eσ5; replace h := h σ5 eσ5; have fσ5 : Fr S_X0_addCase σ0 σ5 := by rw [eσ5]; exact fσ4.up rfl
        exact hq _ _ h fσ5
      · replace h := h.2 hc
        exact hq _ _ h f0
set_option maxHeartbeats 1000000 in
theorem mf_X0_addCases_l57 {Q Q' : Int → St → Prop} {σ0 : St} (hq : ∀ (r : Int) (σ1 : St), Q r σ1 → Fr S_X0_addCases σ0 σ1 → Q' r σ1) : ∀ (n : Nat) (x2 : Int) (x3 : Int) (x4 : Int) (x5 : Int) (σ : St), Fr S_X0_addCases σ0 σ → wp_X0_addCases_l57 Q n x2 x3 x4 x5 σ → wp_X0_addCases_l57 Q' n x2 x3 x4 x5 σ := by
  intro n
  induction n with
  | zero => intro _ _ _ _ _ _ h; exact h.elim
  | succ n ih =>
    intro x2 x3 x4 x5 σ f0 h
    unfold wp_X0_addCases_l57 at h ⊢
    refine ⟨fun hc => ?_, fun hc => ?_⟩
    · replace h := h.1 hc
      exact hq _ _ h f0
    · replace h := h.2 hc
      refine ⟨h.1, ?_⟩; replace h := h.2
      refine mf_X0_partOver (fun r8 σ9 h gσ9 => ?_) Fr.rf h
      have fσ9 : Fr S_X0_addCases σ0 σ9 := f0.tr gσ9 (mkS_sub (by decide) (by decide))
      refine ⟨h.1, ?_⟩; replace h := h.2
      refine mf_X0_partOver (fun r10 σ11 h gσ11 => ?_) Fr.rf h
      have fσ11 : Fr S_X0_addCases σ0 σ11 := fσ9.tr gσ11 (mkS_sub (by decide) (by decide))
      refine mf_X0_addCase (fun r12 σ13 h gσ13 => ?_) Fr.rf h
      have fσ13 : Fr S_X0_addCases σ0 σ13 := fσ11.tr gσ13 (mkS_sub (by decide) (by decide))
      intro v14 ev14; replace h := h v14 ev14
      exact ih _ _ _ _ _ fσ13 h
set_option maxHeartbeats 1000000 in
theorem mf_X0_addCases {Q Q' : Int → St → Prop} {σ0 : St} (hq : ∀ (r : Int) (σ1 : St), Q r σ1 → Fr S_X0_addCases σ0 σ1 → Q' r σ1) {x1 x2 : Int} {σ : St} (f0 : Fr S_X0_addCases σ0 σ) (h : wp_X0_addCases x1 x2 σ Q) : wp_X0_addCases x1 x2 σ Q' := by
  unfold wp_X0_addCases at h ⊢
  refine ⟨h.1, ?_⟩; replace h := h.2
  intro v1 ev1; replace h := h v1 ev1
  refine ⟨h.1, ?_⟩; replace h := h.2
  intro v2 ev2; replace h := h v2 ev2
  refine ⟨h.1, ?_⟩; replace h := h.2
  refine ⟨fun hc => ?_, fun hc => ?_⟩
  · replace h := h.1 hc
    intro v3 ev3; replace h := h v3 ev3
    exact mf_X0_addCases_l57 hq bigN _ _ _ _ _ f0 h
  · replace h := h.2 hc
    refine ⟨h.1, ?_⟩; replace h := h.2
    refine mf_X0_partOver (fun r4 σ5 h gσ5 => ?_) Fr.rf h
    have fσ5 : Fr S_X0_addCases σ0 σ5 := f0.tr gσ5 (mkS_sub (by decide) (by decide))
    refine mf_X0_addCase (fun r6 σ7 h gσ7 => ?_) Fr.rf h
    have fσ7 : Fr S_X0_addCases σ0 σ7 := fσ5.tr gσ7 (mkS_sub (by decide) (by decide))
    exact hq _ _ h fσ7
set_option maxHeartbeats 1000000 in
theorem mf_X0_addSpan_l28 {Q Q' : Int → St → Prop} {σ0 : St} (hq : ∀ (r : Int) (σ1 : St), Q r σ1 → Fr S_X0_addSpan σ0 σ1 → Q' r σ1) {K4 K4' : Int → Int → Int → St → Prop} (hK4 : ∀ (x1 : Int) (x2 : Int) (x3 : Int) (σ : St), Fr S_X0_addSpan σ0 σ → K4 x1 x2 x3 σ → K4' x1 x2 x3 σ) : ∀ (n : Nat) (x1 : Int) (x2 : Int) (x3 : Int) (x4 : Int) (σ : St), Fr S_X0_addSpan σ0 σ → wp_X0_addSpan_l28 Q K4 n x1 x2 x3 x4 σ → wp_X0_addSpan_l28 Q' K4' n x1 x2 x3 x4 σ := by
  intro n
  induction n with
  | zero => intro _ _ _ _ _ _ h; exact h.elim
  | succ n ih =>
    intro x1 x2 x3 x4 σ f0 h
    unfold wp_X0_addSpan_l28 at h ⊢
    refine ⟨fun hc => ?_, fun hc => ?_⟩
    · replace h := h.1 hc
      refine ⟨h.1, ?_⟩; replace h := h.2
      refine mf_X0_addCases (fun r4 σ5 h gσ5 => ?_) Fr.rf h
      have fσ5 : Fr S_X0_addSpan σ0 σ5 := f0.tr gσ5 (mkS_sub (by decide) (by decide))
      intro v6 ev6; replace h := h v6 ev6
      exact hK4 _ _ _ _ fσ5 h
    · replace h := h.2 hc
      refine ⟨h.1, fun σ7 eσ7 => ?_⟩; replace h := h.2 σ7 eσ7; have fσ7 : Fr S_X0_addSpan σ0 σ7 := by rw [eσ7]; exact f0.up rfl
      intro v8 ev8; replace h := h v8 ev8
      exact ih _ _ _ _ _ fσ7 h
set_option maxHeartbeats 1000000 in
theorem mf_X0_addSpan_l72 {Q Q' : Int → St → Prop} {σ0 : St} (hq : ∀ (r : Int) (σ1 : St), Q r σ1 → Fr S_X0_addSpan σ0 σ1 → Q' r σ1) : ∀ (n : Nat) (x1 : Int) (x2 : Int) (σ : St), Fr S_X0_addSpan σ0 σ → wp_X0_addSpan_l72 Q n x1 x2 σ → wp_X0_addSpan_l72 Q' n x1 x2 σ := by
  intro n
  induction n with
  | zero => intro _ _ _ _ h; exact h.elim
  | succ n ih =>
    intro x1 x2 σ f0 h
    unfold wp_X0_addSpan_l72 at h ⊢
    refine ⟨fun hc => ?_, fun hc => ?_⟩
    · replace h := h.1 hc
      exact hq _ _ h f0
    · replace h := h.2 hc
      refine ⟨h.1, fun σ2 eσ2 => ?_⟩; replace h := h.2 σ2 eσ2; have fσ2 : Fr S_X0_addSpan σ0 σ2 := by rw [eσ2]; exact f0.up rfl
      intro v3 ev3; replace h := h v3 ev3
      exact ih _ _ _ fσ2 h
set_option maxHeartbeats 1000000 in
theorem mf_X0_addSpan_l4 {Q Q' : Int → St → Prop} {σ0 : St} (hq : ∀ (r : Int) (σ1 : St), Q r σ1 → Fr S_X0_addSpan σ0 σ1 → Q' r σ1) : ∀ (n : Nat) (x1 : Int) (x2 : Int) (x3 : Int) (σ : St), Fr S_X0_addSpan σ0 σ → wp_X0_addSpan_l4 Q n x1 x2 x3 σ → wp_X0_addSpan_l4 Q' n x1 x2 x3 σ := by
  intro n
  induction n with
  | zero => intro _ _ _ _ _ h; exact h.elim
  | succ n ih =>
    intro x1 x2 x3 σ f0 h
    unfold wp_X0_addSpan_l4 at h ⊢
    refine ⟨fun hc => ?_, fun hc => ?_⟩
    · replace h := h.1 hc
      exact mf_X0_addSpan_l72 hq bigN _ _ _ f0 h
    · replace h := h.2 hc
      refine ⟨h.1, ?_⟩; replace h := h.2
      refine ⟨h.1, ?_⟩; replace h := h.2
      intro v1 ev1; replace h := h v1 ev1
      exact mf_X0_addSpan_l28 hq ih bigN _ _ _ _ _ f0 h
set_option maxHeartbeats 1000000 in
theorem mf_X0_addSpan {Q Q' : Int → St → Prop} {σ0 : St} (hq : ∀ (r : Int) (σ1 : St), Q r σ1 → Fr S_X0_addSpan σ0 σ1 → Q' r σ1) {x1 : Int} {σ : St} (f0 : Fr S_X0_addSpan σ0 σ) (h : wp_X0_addSpan x1 σ Q) : wp_X0_addSpan x1 σ Q' := by
  unfold wp_X0_addSpan at h ⊢
  exact mf_X0_addSpan_l4 hq bigN _ _ _ _ f0 h
set_option maxHeartbeats 1000000 in
theorem mf_X0_build_l28 {Q Q' : Int → St → Prop} {σ0 : St} (hq : ∀ (r : Int) (σ1 : St), Q r σ1 → Fr S_X0_build σ0 σ1 → Q' r σ1) : ∀ (n : Nat) (x1 : Int) (σ : St), Fr S_X0_build σ0 σ → wp_X0_build_l28 Q n x1 σ → wp_X0_build_l28 Q' n x1 σ := by
  intro n
  induction n with
  | zero => intro _ _ _ h; exact h.elim
  | succ n ih =>
    intro x1 σ f0 h
    unfold wp_X0_build_l28 at h ⊢
    refine ⟨fun hc => ?_, fun hc => ?_⟩
    · replace h := h.1 hc
      refine ⟨h.1, fun σ7 eσ7 => ?_⟩; replace h := h.2 σ7 eσ7; have fσ7 : Fr S_X0_build σ0 σ7 := by rw [eσ7]; exact f0.up rfl
      exact hq _ _ h fσ7
    · replace h := h.2 hc
      refine mf_X0_addSpan (fun r8 σ9 h gσ9 => ?_) Fr.rf h
      have fσ9 : Fr S_X0_build σ0 σ9 := f0.tr gσ9 (mkS_sub (by decide) (by decide))
      intro v10 ev10; replace h := h v10 ev10
      exact ih _ _ fσ9 h
set_option maxHeartbeats 1000000 in
theorem mf_X0_build {Q Q' : Int → St → Prop} {σ0 : St} (hq : ∀ (r : Int) (σ1 : St), Q r σ1 → Fr S_X0_build σ0 σ1 → Q' r σ1) {σ : St} (f0 : Fr S_X0_build σ0 σ) (h : wp_X0_build  σ Q) : wp_X0_build  σ Q' := by
  unfold wp_X0_build at h ⊢
  refine ⟨fun hc => ?_, fun hc => ?_⟩
  · replace h := h.1 hc
    intro σ1 eσ1; replace h := h σ1 eσ1; have fσ1 : Fr S_X0_build σ0 σ1 := by rw [eσ1]; exact f0.up rfl
    refine mf_X0_layOutSpans (fun r2 σ3 h gσ3 => ?_) Fr.rf h
    have fσ3 : Fr S_X0_build σ0 σ3 := fσ1.tr gσ3 (mkS_sub (by decide) (by decide))
    refine mf_X0_gatherLive (fun r4 σ5 h gσ5 => ?_) Fr.rf h
    have fσ5 : Fr S_X0_build σ0 σ5 := fσ3.tr gσ5 (mkS_sub (by decide) (by decide))
    intro σ6 eσ6; replace h := h σ6 eσ6; have fσ6 : Fr S_X0_build σ0 σ6 := by rw [eσ6]; exact fσ5.up rfl
    exact mf_X0_build_l28 hq bigN _ _ fσ6 h
  · replace h := h.2 hc
    exact hq _ _ h f0
set_option maxHeartbeats 1000000 in
theorem mf_X0_caseStart {Q Q' : Int → St → Prop} {σ0 : St} (hq : ∀ (r : Int) (σ1 : St), Q r σ1 → Fr S_X0_caseStart σ0 σ1 → Q' r σ1) {x1 : Int} {σ : St} (f0 : Fr S_X0_caseStart σ0 σ) (h : wp_X0_caseStart x1 σ Q) : wp_X0_caseStart x1 σ Q' := by
  unfold wp_X0_caseStart at h ⊢
  refine ⟨h.1, ?_⟩; replace h := h.2
  exact hq _ _ h f0
set_option maxHeartbeats 1000000 in
theorem mf_X0_caseEnd {Q Q' : Int → St → Prop} {σ0 : St} (hq : ∀ (r : Int) (σ1 : St), Q r σ1 → Fr S_X0_caseEnd σ0 σ1 → Q' r σ1) {x1 : Int} {σ : St} (f0 : Fr S_X0_caseEnd σ0 σ) (h : wp_X0_caseEnd x1 σ Q) : wp_X0_caseEnd x1 σ Q' := by
  unfold wp_X0_caseEnd at h ⊢
  refine ⟨h.1, ?_⟩; replace h := h.2
  exact hq _ _ h f0
set_option maxHeartbeats 1000000 in
theorem mf_X0_goesOn_b23 {Q Q' : Int → St → Prop} {σ0 : St} (hq : ∀ (r : Int) (σ1 : St), Q r σ1 → Fr S_X0_goesOn σ0 σ1 → Q' r σ1) {σ : St} (f0 : Fr S_X0_goesOn σ0 σ) (h : wp_X0_goesOn_b23 Q  σ) : wp_X0_goesOn_b23 Q'  σ := by
  unfold wp_X0_goesOn_b23 at h ⊢
  exact hq _ _ h f0
set_option maxHeartbeats 1000000 in
theorem mf_X0_goesOn {Q Q' : Int → St → Prop} {σ0 : St} (hq : ∀ (r : Int) (σ1 : St), Q r σ1 → Fr S_X0_goesOn σ0 σ1 → Q' r σ1) {x1 : Int} {σ : St} (f0 : Fr S_X0_goesOn σ0 σ) (h : wp_X0_goesOn x1 σ Q) : wp_X0_goesOn x1 σ Q' := by
  unfold wp_X0_goesOn at h ⊢
  refine ⟨h.1, ?_⟩; replace h := h.2
  refine ⟨fun hc => ?_, fun hc => ?_⟩
  · replace h := h.1 hc
    exact mf_X0_goesOn_b23 hq f0 h
  · replace h := h.2 hc
    refine ⟨h.1, ?_⟩; replace h := h.2
    refine ⟨fun hc => ?_, fun hc => ?_⟩
    · replace h := h.1 hc
      exact mf_X0_goesOn_b23 hq f0 h
    · replace h := h.2 hc
      exact hq _ _ h f0
set_option maxHeartbeats 1000000 in
theorem mf_X1_join {Q Q' : Int → St → Prop} {σ0 : St} (hq : ∀ (r : Int) (σ1 : St), Q r σ1 → Fr S_X1_join σ0 σ1 → Q' r σ1) {x0 x1 x2 : Int} {σ : St} (f0 : Fr S_X1_join σ0 σ) (h : wp_X1_join x0 x1 x2 σ Q) : wp_X1_join x0 x1 x2 σ Q' := by
  unfold wp_X1_join at h ⊢
  refine ⟨fun hc => ?_, fun hc => ?_⟩
  · replace h := h.1 hc
    exact hq _ _ h f0
  · replace h := h.2 hc
    exact hq _ _ h f0
set_option maxHeartbeats 1000000 in
theorem mf_X1_lesser_b10 {Q Q' : Int → St → Prop} {σ0 : St} (hq : ∀ (r : Int) (σ1 : St), Q r σ1 → Fr S_X1_lesser σ0 σ1 → Q' r σ1) {x1 : Int} {σ : St} (f0 : Fr S_X1_lesser σ0 σ) (h : wp_X1_lesser_b10 Q x1 σ) : wp_X1_lesser_b10 Q' x1 σ := by
  unfold wp_X1_lesser_b10 at h ⊢
  exact hq _ _ h f0
set_option maxHeartbeats 1000000 in
theorem mf_X1_lesser {Q Q' : Int → St → Prop} {σ0 : St} (hq : ∀ (r : Int) (σ1 : St), Q r σ1 → Fr S_X1_lesser σ0 σ1 → Q' r σ1) {x0 x1 : Int} {σ : St} (f0 : Fr S_X1_lesser σ0 σ) (h : wp_X1_lesser x0 x1 σ Q) : wp_X1_lesser x0 x1 σ Q' := by
  unfold wp_X1_lesser at h ⊢
  refine ⟨fun hc => ?_, fun hc => ?_⟩
  · replace h := h.1 hc
    exact mf_X1_lesser_b10 hq f0 h
  · replace h := h.2 hc
    refine ⟨fun hc => ?_, fun hc => ?_⟩
    · replace h := h.1 hc
      exact hq _ _ h f0
    · replace h := h.2 hc
      exact mf_X1_lesser_b10 hq f0 h
set_option maxHeartbeats 1000000 in
theorem mf_X1_leastOfCases_c37_b159 {Q Q' : Int → St → Prop} {σ0 : St} (hq : ∀ (r : Int) (σ1 : St), Q r σ1 → Fr S_X1_leastOfCases_c37 σ0 σ1 → Q' r σ1) {K13 K13' : Int → Int → Int → Int → Int → St → Prop} (hK13 : ∀ (x2 : Int) (x3 : Int) (x4 : Int) (x5 : Int) (x6 : Int) (σ : St), Fr S_X1_leastOfCases_c37 σ0 σ → K13 x2 x3 x4 x5 x6 σ → K13' x2 x3 x4 x5 x6 σ) {x2 x3 x4 x5 x6 : Int} {σ : St} (f0 : Fr S_X1_leastOfCases_c37 σ0 σ) (h : wp_X1_leastOfCases_c37_b159 Q K13 x2 x3 x4 x5 x6 σ) : wp_X1_leastOfCases_c37_b159 Q' K13' x2 x3 x4 x5 x6 σ := by
  unfold wp_X1_leastOfCases_c37_b159 at h ⊢
  intro v8 ev8; replace h := h v8 ev8
  exact hK13 _ _ _ _ _ _ f0 h
set_option maxHeartbeats 1000000 in
theorem mf_X1_leastOfCases_c37_b116 {Q Q' : Int → St → Prop} {σ0 : St} (hq : ∀ (r : Int) (σ1 : St), Q r σ1 → Fr S_X1_leastOfCases_c37 σ0 σ1 → Q' r σ1) {K13 K13' : Int → Int → Int → Int → Int → St → Prop} (hK13 : ∀ (x2 : Int) (x3 : Int) (x4 : Int) (x5 : Int) (x6 : Int) (σ : St), Fr S_X1_leastOfCases_c37 σ0 σ → K13 x2 x3 x4 x5 x6 σ → K13' x2 x3 x4 x5 x6 σ) {x2 x3 x4 x5 x6 x7 x8 s0 : Int} {σ : St} (f0 : Fr S_X1_leastOfCases_c37 σ0 σ) (h : wp_X1_leastOfCases_c37_b116 Q K13 x2 x3 x4 x5 x6 x7 x8 s0 σ) : wp_X1_leastOfCases_c37_b116 Q' K13' x2 x3 x4 x5 x6 x7 x8 s0 σ := by
  unfold wp_X1_leastOfCases_c37_b116 at h ⊢
  refine ⟨fun hc => ?_, fun hc => ?_⟩
  · replace h := h.1 hc
    exact mf_X1_leastOfCases_c37_b159 hq hK13 f0 h
  · replace h := h.2 hc
    refine ⟨fun hc => ?_, fun hc => ?_⟩
    · replace h := h.1 hc
      exact mf_X1_leastOfCases_c37_b159 hq hK13 f0 h
    · replace h := h.2 hc
      refine ⟨h.1, ?_⟩; replace h := h.2
      refine mf_X1_join (fun r9 σ10 h gσ10 => ?_) Fr.rf h
      have fσ10 : Fr S_X1_leastOfCases_c37 σ0 σ10 := f0.tr gσ10 (mkS_sub (by decide) (by decide))
      refine mf_X1_join (fun r11 σ12 h gσ12 => ?_) Fr.rf h
      have fσ12 : Fr S_X1_leastOfCases_c37 σ0 σ12 := fσ10.tr gσ12 (mkS_sub (by decide) (by decide))
      refine mf_X1_lesser (fun r13 σ14 h gσ14 => ?_) Fr.rf h
      have fσ14 : Fr S_X1_leastOfCases_c37 σ0 σ14 := fσ12.tr gσ14 (mkS_sub (by decide) (by decide))
      exact mf_X1_leastOfCases_c37_b159 hq hK13 fσ14 h
set_option maxHeartbeats 1000000 in
theorem mf_X1_leastOfCases_c37_b85 {Q Q' : Int → St → Prop} {σ0 : St} (hq : ∀ (r : Int) (σ1 : St), Q r σ1 → Fr S_X1_leastOfCases_c37 σ0 σ1 → Q' r σ1) {K13 K13' : Int → Int → Int → Int → Int → St → Prop} (hK13 : ∀ (x2 : Int) (x3 : Int) (x4 : Int) (x5 : Int) (x6 : Int) (σ : St), Fr S_X1_leastOfCases_c37 σ0 σ → K13 x2 x3 x4 x5 x6 σ → K13' x2 x3 x4 x5 x6 σ) {x2 x3 x4 x5 x6 x7 s0 : Int} {σ : St} (f0 : Fr S_X1_leastOfCases_c37 σ0 σ) (h : wp_X1_leastOfCases_c37_b85 Q K13 x2 x3 x4 x5 x6 x7 s0 σ) : wp_X1_leastOfCases_c37_b85 Q' K13' x2 x3 x4 x5 x6 x7 s0 σ := by
  unfold wp_X1_leastOfCases_c37_b85 at h ⊢
  refine ⟨h.1, ?_⟩; replace h := h.2
  refine ⟨fun hc => ?_, fun hc => ?_⟩
  · replace h := h.1 hc
    refine ⟨h.1, ?_⟩; replace h := h.2
    refine ⟨h.1, ?_⟩; replace h := h.2
    exact mf_X1_leastOfCases_c37_b116 hq hK13 f0 h
  · replace h := h.2 hc
    exact mf_X1_leastOfCases_c37_b116 hq hK13 f0 h
set_option maxHeartbeats 1000000 in
theorem mf_X1_leastOfCases_c37_l13 {Q Q' : Int → St → Prop} {σ0 : St} (hq : ∀ (r : Int) (σ1 : St), Q r σ1 → Fr S_X1_leastOfCases_c37 σ0 σ1 → Q' r σ1) : ∀ (n : Nat) (x2 : Int) (x3 : Int) (x4 : Int) (x5 : Int) (x6 : Int) (σ : St), Fr S_X1_leastOfCases_c37 σ0 σ → wp_X1_leastOfCases_c37_l13 Q n x2 x3 x4 x5 x6 σ → wp_X1_leastOfCases_c37_l13 Q' n x2 x3 x4 x5 x6 σ := by
  intro n
  induction n with
  | zero => intro _ _ _ _ _ _ _ h; exact h.elim
  | succ n ih =>
    intro x2 x3 x4 x5 x6 σ f0 h
    unfold wp_X1_leastOfCases_c37_l13 at h ⊢
    refine mf_X0_caseEnd (fun r3 σ4 h gσ4 => ?_) Fr.rf h
    have fσ4 : Fr S_X1_leastOfCases_c37 σ0 σ4 := f0.tr gσ4 (mkS_sub (by decide) (by decide))
    refine ⟨fun hc => ?_, fun hc => ?_⟩
    · replace h := h.1 hc
      exact hq _ _ h fσ4
    · replace h := h.2 hc
      refine ⟨h.1, ?_⟩; replace h := h.2
      intro v5 ev5; replace h := h v5 ev5
      refine ⟨fun hc => ?_, fun hc => ?_⟩
      · replace h := h.1 hc
        exact mf_X1_leastOfCases_c37_b159 hq ih fσ4 h
      · replace h := h.2 hc
        refine mf_X0_goesOn (fun r6 σ7 h gσ7 => ?_) Fr.rf h
        have fσ7 : Fr S_X1_leastOfCases_c37 σ0 σ7 := fσ4.tr gσ7 (mkS_sub (by decide) (by decide))
        refine ⟨fun hc => ?_, fun hc => ?_⟩
        · replace h := h.1 hc
          exact mf_X1_leastOfCases_c37_b159 hq ih fσ7 h
        · replace h := h.2 hc
          refine ⟨h.1, ?_⟩; replace h := h.2
          refine ⟨fun hc => ?_, fun hc => ?_⟩
          · replace h := h.1 hc
            refine ⟨h.1, ?_⟩; replace h := h.2
            refine ⟨h.1, ?_⟩; replace h := h.2
            exact mf_X1_leastOfCases_c37_b85 hq ih fσ7 h
          · replace h := h.2 hc
            exact mf_X1_leastOfCases_c37_b85 hq ih fσ7 h
set_option maxHeartbeats 1000000 in
theorem mf_X1_leastOfCases_c37 {Q Q' : Int → St → Prop} {σ0 : St} (hq : ∀ (r : Int) (σ1 : St), Q r σ1 → Fr S_X1_leastOfCases_c37 σ0 σ1 → Q' r σ1) {x2 x3 x4 : Int} {σ : St} (f0 : Fr S_X1_leastOfCases_c37 σ0 σ) (h : wp_X1_leastOfCases_c37 x2 x3 x4 σ Q) : wp_X1_leastOfCases_c37 x2 x3 x4 σ Q' := by
  unfold wp_X1_leastOfCases_c37 at h ⊢
  refine mf_X0_caseStart (fun r1 σ2 h gσ2 => ?_) Fr.rf h
  have fσ2 : Fr S_X1_leastOfCases_c37 σ0 σ2 := f0.tr gσ2 (mkS_sub (by decide) (by decide))
  exact mf_X1_leastOfCases_c37_l13 hq bigN _ _ _ _ _ _ fσ2 h
set_option maxHeartbeats 1000000 in
theorem mf_X1_relax_c37_b122 {Q Q' : Int → St → Prop} {σ0 : St} (hq : ∀ (r : Int) (σ1 : St), Q r σ1 → Fr S_X1_relax_c37 σ0 σ1 → Q' r σ1) {K6 K6' : Int → Int → Int → Int → Int → St → Prop} (hK6 : ∀ (x2 : Int) (x3 : Int) (x4 : Int) (x5 : Int) (x6 : Int) (σ : St), Fr S_X1_relax_c37 σ0 σ → K6 x2 x3 x4 x5 x6 σ → K6' x2 x3 x4 x5 x6 σ) {x2 x3 x4 x5 x6 : Int} {σ : St} (f0 : Fr S_X1_relax_c37 σ0 σ) (h : wp_X1_relax_c37_b122 Q K6 x2 x3 x4 x5 x6 σ) : wp_X1_relax_c37_b122 Q' K6' x2 x3 x4 x5 x6 σ := by
  unfold wp_X1_relax_c37_b122 at h ⊢
  intro v8 ev8; replace h := h v8 ev8
  exact hK6 _ _ _ _ _ _ f0 h
set_option maxHeartbeats 1000000 in
theorem mf_X1_relax_c37_b113 {Q Q' : Int → St → Prop} {σ0 : St} (hq : ∀ (r : Int) (σ1 : St), Q r σ1 → Fr S_X1_relax_c37 σ0 σ1 → Q' r σ1) {K6 K6' : Int → Int → Int → Int → Int → St → Prop} (hK6 : ∀ (x2 : Int) (x3 : Int) (x4 : Int) (x5 : Int) (x6 : Int) (σ : St), Fr S_X1_relax_c37 σ0 σ → K6 x2 x3 x4 x5 x6 σ → K6' x2 x3 x4 x5 x6 σ) {x2 x3 x4 x6 x9 x10 s0 s1 : Int} {σ : St} (f0 : Fr S_X1_relax_c37 σ0 σ) (h : wp_X1_relax_c37_b113 Q K6 x2 x3 x4 x6 x9 x10 s0 s1 σ) : wp_X1_relax_c37_b113 Q' K6' x2 x3 x4 x6 x9 x10 s0 s1 σ := by
  unfold wp_X1_relax_c37_b113 at h ⊢
  intro v9 ev9; replace h := h v9 ev9
  refine ⟨h.1, fun σ10 eσ10 => ?_⟩; replace h := h.2 σ10 eσ10; have fσ10 : Fr S_X1_relax_c37 σ0 σ10 := by rw [eσ10]; exact f0.up rfl
  exact mf_X1_relax_c37_b122 hq hK6 fσ10 h
set_option maxHeartbeats 1000000 in
theorem mf_X1_relax_c37_l6 {Q Q' : Int → St → Prop} {σ0 : St} (hq : ∀ (r : Int) (σ1 : St), Q r σ1 → Fr S_X1_relax_c37 σ0 σ1 → Q' r σ1) : ∀ (n : Nat) (x2 : Int) (x3 : Int) (x4 : Int) (x5 : Int) (x6 : Int) (σ : St), Fr S_X1_relax_c37 σ0 σ → wp_X1_relax_c37_l6 Q n x2 x3 x4 x5 x6 σ → wp_X1_relax_c37_l6 Q' n x2 x3 x4 x5 x6 σ := by
  intro n
  induction n with
  | zero => intro _ _ _ _ _ _ _ h; exact h.elim
  | succ n ih =>
    intro x2 x3 x4 x5 x6 σ f0 h
    unfold wp_X1_relax_c37_l6 at h ⊢
    refine ⟨fun hc => ?_, fun hc => ?_⟩
    · replace h := h.1 hc
      exact ⟨h.1, hq _ _ h.2 f0⟩
    · replace h := h.2 hc
      refine ⟨h.1, ?_⟩; replace h := h.2
      intro v1 ev1; replace h := h v1 ev1
      refine ⟨h.1, ?_⟩; replace h := h.2
      refine ⟨h.1, ?_⟩; replace h := h.2
      intro v2 ev2; replace h := h v2 ev2
      refine ⟨h.1, ?_⟩; replace h := h.2
      intro v3 ev3; replace h := h v3 ev3
      refine ⟨fun hc => ?_, fun hc => ?_⟩
      · replace h := h.1 hc
        exact mf_X1_relax_c37_b122 hq ih f0 h
      · replace h := h.2 hc
        refine ⟨fun hc => ?_, fun hc => ?_⟩
        · replace h := h.1 hc
          exact mf_X1_relax_c37_b122 hq ih f0 h
        · replace h := h.2 hc
          refine ⟨h.1, ?_⟩; replace h := h.2
          refine ⟨h.1, ?_⟩; replace h := h.2
          refine mf_X1_join (fun r4 σ5 h gσ5 => ?_) Fr.rf h
          have fσ5 : Fr S_X1_relax_c37 σ0 σ5 := f0.tr gσ5 (mkS_sub (by decide) (by decide))
          refine mf_X1_lesser (fun r6 σ7 h gσ7 => ?_) Fr.rf h
          have fσ7 : Fr S_X1_relax_c37 σ0 σ7 := fσ5.tr gσ7 (mkS_sub (by decide) (by decide))
          refine ⟨h.1, ?_⟩; replace h := h.2
          refine ⟨fun hc => ?_, fun hc => ?_⟩
          · replace h := h.1 hc
            exact mf_X1_relax_c37_b113 hq ih fσ7 h
          · replace h := h.2 hc
            exact mf_X1_relax_c37_b113 hq ih fσ7 h
set_option maxHeartbeats 1000000 in
theorem mf_X1_relax_c37 {Q Q' : Int → St → Prop} {σ0 : St} (hq : ∀ (r : Int) (σ1 : St), Q r σ1 → Fr S_X1_relax_c37 σ0 σ1 → Q' r σ1) {x2 x3 x4 : Int} {σ : St} (f0 : Fr S_X1_relax_c37 σ0 σ) (h : wp_X1_relax_c37 x2 x3 x4 σ Q) : wp_X1_relax_c37 x2 x3 x4 σ Q' := by
  unfold wp_X1_relax_c37 at h ⊢
  exact mf_X1_relax_c37_l6 hq bigN _ _ _ _ _ _ f0 h
set_option maxHeartbeats 1000000 in
theorem mf_X1_fill_c37_b90 {Q Q' : Int → St → Prop} {σ0 : St} (hq : ∀ (r : Int) (σ1 : St), Q r σ1 → Fr S_X1_fill_c37 σ0 σ1 → Q' r σ1) {K3 K3' : Int → Int → Int → St → Prop} (hK3 : ∀ (x2 : Int) (x3 : Int) (x4 : Int) (σ : St), Fr S_X1_fill_c37 σ0 σ → K3 x2 x3 x4 σ → K3' x2 x3 x4 σ) {x2 x3 x4 : Int} {σ : St} (f0 : Fr S_X1_fill_c37 σ0 σ) (h : wp_X1_fill_c37_b90 Q K3 x2 x3 x4 σ) : wp_X1_fill_c37_b90 Q' K3' x2 x3 x4 σ := by
  unfold wp_X1_fill_c37_b90 at h ⊢
  intro v9 ev9; replace h := h v9 ev9
  exact hK3 _ _ _ _ f0 h
set_option maxHeartbeats 1000000 in
theorem mf_X1_fill_c37_l61 {Q Q' : Int → St → Prop} {σ0 : St} (hq : ∀ (r : Int) (σ1 : St), Q r σ1 → Fr S_X1_fill_c37 σ0 σ1 → Q' r σ1) {K3 K3' : Int → Int → Int → St → Prop} (hK3 : ∀ (x2 : Int) (x3 : Int) (x4 : Int) (σ : St), Fr S_X1_fill_c37 σ0 σ → K3 x2 x3 x4 σ → K3' x2 x3 x4 σ) : ∀ (n : Nat) (x2 : Int) (x3 : Int) (x4 : Int) (x5 : Int) (x6 : Int) (x7 : Int) (σ : St), Fr S_X1_fill_c37 σ0 σ → wp_X1_fill_c37_l61 Q K3 n x2 x3 x4 x5 x6 x7 σ → wp_X1_fill_c37_l61 Q' K3' n x2 x3 x4 x5 x6 x7 σ := by
  intro n
  induction n with
  | zero => intro _ _ _ _ _ _ _ _ h; exact h.elim
  | succ n ih =>
    intro x2 x3 x4 x5 x6 x7 σ f0 h
    unfold wp_X1_fill_c37_l61 at h ⊢
    refine ⟨fun hc => ?_, fun hc => ?_⟩
    · replace h := h.1 hc
      exact mf_X1_fill_c37_b90 hq hK3 f0 h
    · replace h := h.2 hc
      refine ⟨fun hc => ?_, fun hc => ?_⟩
      · replace h := h.1 hc
        exact mf_X1_fill_c37_b90 hq hK3 f0 h
      · replace h := h.2 hc
        refine mf_X1_relax_c37 (fun r6 σ7 h gσ7 => ?_) Fr.rf h
        have fσ7 : Fr S_X1_fill_c37 σ0 σ7 := f0.tr gσ7 (mkS_sub (by decide) (by decide))
        intro v8 ev8; replace h := h v8 ev8
        exact ih _ _ _ _ _ _ _ fσ7 h
set_option maxHeartbeats 1000000 in
theorem mf_X1_fill_c37_l26 {Q Q' : Int → St → Prop} {σ0 : St} (hq : ∀ (r : Int) (σ1 : St), Q r σ1 → Fr S_X1_fill_c37 σ0 σ1 → Q' r σ1) {K3 K3' : Int → Int → Int → St → Prop} (hK3 : ∀ (x2 : Int) (x3 : Int) (x4 : Int) (σ : St), Fr S_X1_fill_c37 σ0 σ → K3 x2 x3 x4 σ → K3' x2 x3 x4 σ) : ∀ (n : Nat) (x2 : Int) (x3 : Int) (x4 : Int) (x5 : Int) (x6 : Int) (σ : St), Fr S_X1_fill_c37 σ0 σ → wp_X1_fill_c37_l26 Q K3 n x2 x3 x4 x5 x6 σ → wp_X1_fill_c37_l26 Q' K3' n x2 x3 x4 x5 x6 σ := by
  intro n
  induction n with
  | zero => intro _ _ _ _ _ _ _ h; exact h.elim
  | succ n ih =>
    intro x2 x3 x4 x5 x6 σ f0 h
    unfold wp_X1_fill_c37_l26 at h ⊢
    refine ⟨fun hc => ?_, fun hc => ?_⟩
    · replace h := h.1 hc
      exact mf_X1_fill_c37_l61 hq hK3 bigN _ _ _ _ _ _ _ f0 h
    · replace h := h.2 hc
      refine mf_X1_leastOfCases_c37 (fun r2 σ3 h gσ3 => ?_) Fr.rf h
      have fσ3 : Fr S_X1_fill_c37 σ0 σ3 := f0.tr gσ3 (mkS_sub (by decide) (by decide))
      refine ⟨h.1, fun σ4 eσ4 => ?_⟩; replace h := h.2 σ4 eσ4; have fσ4 : Fr S_X1_fill_c37 σ0 σ4 := by rw [eσ4]; exact fσ3.up rfl
      intro v5 ev5; replace h := h v5 ev5
      exact ih _ _ _ _ _ _ fσ4 h
set_option maxHeartbeats 1000000 in
theorem mf_X1_fill_c37_l3 {Q Q' : Int → St → Prop} {σ0 : St} (hq : ∀ (r : Int) (σ1 : St), Q r σ1 → Fr S_X1_fill_c37 σ0 σ1 → Q' r σ1) : ∀ (n : Nat) (x2 : Int) (x3 : Int) (x4 : Int) (σ : St), Fr S_X1_fill_c37 σ0 σ → wp_X1_fill_c37_l3 Q n x2 x3 x4 σ → wp_X1_fill_c37_l3 Q' n x2 x3 x4 σ := by
  intro n
  induction n with
  | zero => intro _ _ _ _ _ h; exact h.elim
  | succ n ih =>
    intro x2 x3 x4 σ f0 h
    unfold wp_X1_fill_c37_l3 at h ⊢
    refine ⟨fun hc => ?_, fun hc => ?_⟩
    · replace h := h.1 hc
      exact hq _ _ h f0
    · replace h := h.2 hc
      intro v1 ev1; replace h := h v1 ev1
      exact mf_X1_fill_c37_l26 hq ih bigN _ _ _ _ _ _ f0 h
set_option maxHeartbeats 1000000 in
theorem mf_X1_fill_c37 {Q Q' : Int → St → Prop} {σ0 : St} (hq : ∀ (r : Int) (σ1 : St), Q r σ1 → Fr S_X1_fill_c37 σ0 σ1 → Q' r σ1) {x2 x3 : Int} {σ : St} (f0 : Fr S_X1_fill_c37 σ0 σ) (h : wp_X1_fill_c37 x2 x3 σ Q) : wp_X1_fill_c37 x2 x3 σ Q' := by
  unfold wp_X1_fill_c37 at h ⊢
  exact mf_X1_fill_c37_l3 hq bigN _ _ _ _ f0 h
set_option maxHeartbeats 1000000 in
theorem mf_X1_prepare {Q Q' : Int → St → Prop} {σ0 : St} (hq : ∀ (r : Int) (σ1 : St), Q r σ1 → Fr S_X1_prepare σ0 σ1 → Q' r σ1) {σ : St} (f0 : Fr S_X1_prepare σ0 σ) (h : wp_X1_prepare  σ Q) : wp_X1_prepare  σ Q' := by
  unfold wp_X1_prepare at h ⊢
  refine mf_X0_build (fun r1 σ2 h gσ2 => ?_) Fr.rf h
  have fσ2 : Fr S_X1_prepare σ0 σ2 := f0.tr gσ2 (mkS_sub (by decide) (by decide))
  refine ⟨fun hc => ?_, fun hc => ?_⟩
  · replace h := h.1 hc
    exact hq _ _ h fσ2
  · replace h := h.2 hc
    intro σ3 eσ3; replace h := h σ3 eσ3; have fσ3 : Fr S_X1_prepare σ0 σ3 := by rw [eσ3]; exact fσ2.up rfl
    refine mf_X1_fill_c37 (fun r4 σ5 h gσ5 => ?_) Fr.rf h
    have fσ5 : Fr S_X1_prepare σ0 σ5 := fσ3.tr gσ5 (mkS_sub (by decide) (by decide))
    exact hq _ _ h fσ5
set_option maxHeartbeats 1000000 in
theorem mf_X0_itemCount {Q Q' : Int → St → Prop} {σ0 : St} (hq : ∀ (r : Int) (σ1 : St), Q r σ1 → Fr S_X0_itemCount σ0 σ1 → Q' r σ1) {σ : St} (f0 : Fr S_X0_itemCount σ0 σ) (h : wp_X0_itemCount  σ Q) : wp_X0_itemCount  σ Q' := by
  unfold wp_X0_itemCount at h ⊢
  exact hq _ _ h f0
set_option maxHeartbeats 1000000 in
theorem mf_X1_has {Q Q' : Int → St → Prop} {σ0 : St} (hq : ∀ (r : Int) (σ1 : St), Q r σ1 → Fr S_X1_has σ0 σ1 → Q' r σ1) {x1 : Int} {σ : St} (f0 : Fr S_X1_has σ0 σ) (h : wp_X1_has x1 σ Q) : wp_X1_has x1 σ Q' := by
  unfold wp_X1_has at h ⊢
  refine ⟨h.1, ?_⟩; replace h := h.2
  refine ⟨fun hc => ?_, fun hc => ?_⟩
  · replace h := h.1 hc
    exact hq _ _ h f0
  · replace h := h.2 hc
    exact hq _ _ h f0
set_option maxHeartbeats 1000000 in
theorem mf_X1_itemsWithTrees_b30 {Q Q' : Int → St → Prop} {σ0 : St} (hq : ∀ (r : Int) (σ1 : St), Q r σ1 → Fr S_X1_itemsWithTrees σ0 σ1 → Q' r σ1) {K8 K8' : Int → Int → St → Prop} (hK8 : ∀ (x1 : Int) (x2 : Int) (σ : St), Fr S_X1_itemsWithTrees σ0 σ → K8 x1 x2 σ → K8' x1 x2 σ) {x1 x2 : Int} {σ : St} (f0 : Fr S_X1_itemsWithTrees σ0 σ) (h : wp_X1_itemsWithTrees_b30 Q K8 x1 x2 σ) : wp_X1_itemsWithTrees_b30 Q' K8' x1 x2 σ := by
  unfold wp_X1_itemsWithTrees_b30 at h ⊢
  intro v8 ev8; replace h := h v8 ev8
  exact hK8 _ _ _ f0 h
set_option maxHeartbeats 1000000 in
theorem mf_X1_itemsWithTrees_l8 {Q Q' : Int → St → Prop} {σ0 : St} (hq : ∀ (r : Int) (σ1 : St), Q r σ1 → Fr S_X1_itemsWithTrees σ0 σ1 → Q' r σ1) : ∀ (n : Nat) (x1 : Int) (x2 : Int) (σ : St), Fr S_X1_itemsWithTrees σ0 σ → wp_X1_itemsWithTrees_l8 Q n x1 x2 σ → wp_X1_itemsWithTrees_l8 Q' n x1 x2 σ := by
  intro n
  induction n with
  | zero => intro _ _ _ _ h; exact h.elim
  | succ n ih =>
    intro x1 x2 σ f0 h
    unfold wp_X1_itemsWithTrees_l8 at h ⊢
    refine mf_X0_itemCount (fun r3 σ4 h gσ4 => ?_) Fr.rf h
    have fσ4 : Fr S_X1_itemsWithTrees σ0 σ4 := f0.tr gσ4 (mkS_sub (by decide) (by decide))
    refine ⟨fun hc => ?_, fun hc => ?_⟩
    · replace h := h.1 hc
      exact hq _ _ h fσ4
    · replace h := h.2 hc
      refine mf_X1_has (fun r5 σ6 h gσ6 => ?_) Fr.rf h
      have fσ6 : Fr S_X1_itemsWithTrees σ0 σ6 := fσ4.tr gσ6 (mkS_sub (by decide) (by decide))
      refine ⟨fun hc => ?_, fun hc => ?_⟩
      · replace h := h.1 hc
        exact mf_X1_itemsWithTrees_b30 hq ih fσ6 h
      · replace h := h.2 hc
        intro v7 ev7; replace h := h v7 ev7
        exact mf_X1_itemsWithTrees_b30 hq ih fσ6 h
set_option maxHeartbeats 1000000 in
theorem mf_X1_itemsWithTrees {Q Q' : Int → St → Prop} {σ0 : St} (hq : ∀ (r : Int) (σ1 : St), Q r σ1 → Fr S_X1_itemsWithTrees σ0 σ1 → Q' r σ1) {σ : St} (f0 : Fr S_X1_itemsWithTrees σ0 σ) (h : wp_X1_itemsWithTrees  σ Q) : wp_X1_itemsWithTrees  σ Q' := by
  unfold wp_X1_itemsWithTrees at h ⊢
  refine mf_X1_prepare (fun r1 σ2 h gσ2 => ?_) Fr.rf h
  have fσ2 : Fr S_X1_itemsWithTrees σ0 σ2 := f0.tr gσ2 (mkS_sub (by decide) (by decide))
  exact mf_X1_itemsWithTrees_l8 hq bigN _ _ _ fσ2 h
set_option maxHeartbeats 1000000 in
theorem mf_X4_rulesIn_b24 {Q Q' : Int → St → Prop} {σ0 : St} (hq : ∀ (r : Int) (σ1 : St), Q r σ1 → Fr S_X4_rulesIn σ0 σ1 → Q' r σ1) {K4 K4' : Int → Int → St → Prop} (hK4 : ∀ (x1 : Int) (x2 : Int) (σ : St), Fr S_X4_rulesIn σ0 σ → K4 x1 x2 σ → K4' x1 x2 σ) {x1 x2 : Int} {σ : St} (f0 : Fr S_X4_rulesIn σ0 σ) (h : wp_X4_rulesIn_b24 Q K4 x1 x2 σ) : wp_X4_rulesIn_b24 Q' K4' x1 x2 σ := by
  unfold wp_X4_rulesIn_b24 at h ⊢
  intro v2 ev2; replace h := h v2 ev2
  exact hK4 _ _ _ f0 h
set_option maxHeartbeats 1000000 in
theorem mf_X4_rulesIn_l4 {Q Q' : Int → St → Prop} {σ0 : St} (hq : ∀ (r : Int) (σ1 : St), Q r σ1 → Fr S_X4_rulesIn σ0 σ1 → Q' r σ1) : ∀ (n : Nat) (x1 : Int) (x2 : Int) (σ : St), Fr S_X4_rulesIn σ0 σ → wp_X4_rulesIn_l4 Q n x1 x2 σ → wp_X4_rulesIn_l4 Q' n x1 x2 σ := by
  intro n
  induction n with
  | zero => intro _ _ _ _ h; exact h.elim
  | succ n ih =>
    intro x1 x2 σ f0 h
    unfold wp_X4_rulesIn_l4 at h ⊢
    refine ⟨fun hc => ?_, fun hc => ?_⟩
    · replace h := h.1 hc
      exact hq _ _ h f0
    · replace h := h.2 hc
      refine ⟨h.1, ?_⟩; replace h := h.2
      refine ⟨fun hc => ?_, fun hc => ?_⟩
      · replace h := h.1 hc
        exact mf_X4_rulesIn_b24 hq ih f0 h
      · replace h := h.2 hc
        intro v1 ev1; replace h := h v1 ev1
        exact mf_X4_rulesIn_b24 hq ih f0 h
set_option maxHeartbeats 1000000 in
theorem mf_X4_rulesIn {Q Q' : Int → St → Prop} {σ0 : St} (hq : ∀ (r : Int) (σ1 : St), Q r σ1 → Fr S_X4_rulesIn σ0 σ1 → Q' r σ1) {σ : St} (f0 : Fr S_X4_rulesIn σ0 σ) (h : wp_X4_rulesIn  σ Q) : wp_X4_rulesIn  σ Q' := by
  unfold wp_X4_rulesIn at h ⊢
  exact mf_X4_rulesIn_l4 hq bigN _ _ _ f0 h
set_option maxHeartbeats 1000000 in
theorem mf_X11_count {Q Q' : Int → St → Prop} {σ0 : St} (hq : ∀ (r : Int) (σ1 : St), Q r σ1 → Fr S_X11_count σ0 σ1 → Q' r σ1) {x1 : Int} {σ : St} (f0 : Fr S_X11_count σ0 σ) (h : wp_X11_count x1 σ Q) : wp_X11_count x1 σ Q' := by
  unfold wp_X11_count at h ⊢
  refine ⟨fun hs0 => ?_, fun hs1 => ?_, fun hs2 => ?_, fun hs3 => ?_, fun hs4 => ?_, fun hs5 => ?_, fun hs6 => ?_, fun hs7 => ?_, fun hs8 => ?_, fun hs9 => ?_, fun hs10 => ?_⟩
  · replace h := h.1 hs0
    exact hq _ _ h f0
  · replace h := h.2.1 hs1
    exact hq _ _ h f0
  · replace h := h.2.2.1 hs2
    refine mf_X4_start (fun r1 σ2 h gσ2 => ?_) Fr.rf h
    have fσ2 : Fr S_X11_count σ0 σ2 := f0.tr gσ2 (mkS_sub (by decide) (by decide))
    exact hq _ _ h fσ2
  · replace h := h.2.2.2.1 hs3
    exact hq _ _ h f0
  · replace h := h.2.2.2.2.1 hs4
    exact hq _ _ h f0
  · replace h := h.2.2.2.2.2.1 hs5
    exact hq _ _ h f0
  · replace h := h.2.2.2.2.2.2.1 hs6
    refine mf_X1_itemsWithTrees (fun r3 σ4 h gσ4 => ?_) Fr.rf h
    have fσ4 : Fr S_X11_count σ0 σ4 := f0.tr gσ4 (mkS_sub (by decide) (by decide))
    exact hq _ _ h fσ4
  · replace h := h.2.2.2.2.2.2.2.1 hs7
    exact hq _ _ h f0
  · replace h := h.2.2.2.2.2.2.2.2.1 hs8
    exact hq _ _ h f0
  · replace h := h.2.2.2.2.2.2.2.2.2.1 hs9
    refine mf_X4_rulesIn (fun r5 σ6 h gσ6 => ?_) Fr.rf h
    have fσ6 : Fr S_X11_count σ0 σ6 := f0.tr gσ6 (mkS_sub (by decide) (by decide))
    exact hq _ _ h fσ6
  · replace h := h.2.2.2.2.2.2.2.2.2.2 hs10
    exact hq _ _ h f0
set_option maxHeartbeats 1000000 in
theorem mf_X4_knows_b16 {Q Q' : Int → St → Prop} {σ0 : St} (hq : ∀ (r : Int) (σ1 : St), Q r σ1 → Fr S_X4_knows σ0 σ1 → Q' r σ1) {σ : St} (f0 : Fr S_X4_knows σ0 σ) (h : wp_X4_knows_b16 Q  σ) : wp_X4_knows_b16 Q'  σ := by
  unfold wp_X4_knows_b16 at h ⊢
  exact hq _ _ h f0
set_option maxHeartbeats 1000000 in
theorem mf_X4_knows {Q Q' : Int → St → Prop} {σ0 : St} (hq : ∀ (r : Int) (σ1 : St), Q r σ1 → Fr S_X4_knows σ0 σ1 → Q' r σ1) {x1 : Int} {σ : St} (f0 : Fr S_X4_knows σ0 σ) (h : wp_X4_knows x1 σ Q) : wp_X4_knows x1 σ Q' := by
  unfold wp_X4_knows at h ⊢
  refine ⟨fun hc => ?_, fun hc => ?_⟩
  · replace h := h.1 hc
    exact mf_X4_knows_b16 hq f0 h
  · replace h := h.2 hc
    refine ⟨fun hc => ?_, fun hc => ?_⟩
    · replace h := h.1 hc
      exact mf_X4_knows_b16 hq f0 h
    · replace h := h.2 hc
      exact hq _ _ h f0
set_option maxHeartbeats 1000000 in
theorem mf_X11_rule {Q Q' : Int → St → Prop} {σ0 : St} (hq : ∀ (r : Int) (σ1 : St), Q r σ1 → Fr S_X11_rule σ0 σ1 → Q' r σ1) {x1 x2 : Int} {σ : St} (f0 : Fr S_X11_rule σ0 σ) (h : wp_X11_rule x1 x2 σ Q) : wp_X11_rule x1 x2 σ Q' := by
  unfold wp_X11_rule at h ⊢
  refine mf_X4_knows (fun r1 σ2 h gσ2 => ?_) Fr.rf h
  have fσ2 : Fr S_X11_rule σ0 σ2 := f0.tr gσ2 (mkS_sub (by decide) (by decide))
  refine ⟨fun hc => ?_, fun hc => ?_⟩
  · replace h := h.1 hc
    refine ⟨fun hs0 => ?_, fun hs1 => ?_, fun hs2 => ?_, fun hs3 => ?_, fun hs4 => ?_, fun hs5 => ?_, fun hs6 => ?_⟩
    · replace h := h.1 hs0
      refine ⟨h.1, ?_⟩; replace h := h.2
      exact hq _ _ h fσ2
    · replace h := h.2.1 hs1
      refine ⟨h.1, ?_⟩; replace h := h.2
      exact hq _ _ h fσ2
    · replace h := h.2.2.1 hs2
      refine ⟨h.1, ?_⟩; replace h := h.2
      exact hq _ _ h fσ2
    · replace h := h.2.2.2.1 hs3
      refine ⟨h.1, ?_⟩; replace h := h.2
      exact hq _ _ h fσ2
    · replace h := h.2.2.2.2.1 hs4
      refine ⟨h.1, ?_⟩; replace h := h.2
      exact hq _ _ h fσ2
    · replace h := h.2.2.2.2.2.1 hs5
      refine ⟨h.1, ?_⟩; replace h := h.2
      refine ⟨fun hc => ?_, fun hc => ?_⟩
      · replace h := h.1 hc
        exact hq _ _ h fσ2
      · replace h := h.2 hc
        exact hq _ _ h fσ2
    · replace h := h.2.2.2.2.2.2 hs6
      exact hq _ _ h fσ2
  · replace h := h.2 hc
    exact hq _ _ h fσ2
set_option maxHeartbeats 1000000 in
theorem mf_X4_isElement_b16 {Q Q' : Int → St → Prop} {σ0 : St} (hq : ∀ (r : Int) (σ1 : St), Q r σ1 → Fr S_X4_isElement σ0 σ1 → Q' r σ1) {σ : St} (f0 : Fr S_X4_isElement σ0 σ) (h : wp_X4_isElement_b16 Q  σ) : wp_X4_isElement_b16 Q'  σ := by
  unfold wp_X4_isElement_b16 at h ⊢
  exact hq _ _ h f0
set_option maxHeartbeats 1000000 in
theorem mf_X4_isElement {Q Q' : Int → St → Prop} {σ0 : St} (hq : ∀ (r : Int) (σ1 : St), Q r σ1 → Fr S_X4_isElement σ0 σ1 → Q' r σ1) {x1 : Int} {σ : St} (f0 : Fr S_X4_isElement σ0 σ) (h : wp_X4_isElement x1 σ Q) : wp_X4_isElement x1 σ Q' := by
  unfold wp_X4_isElement at h ⊢
  refine ⟨fun hc => ?_, fun hc => ?_⟩
  · replace h := h.1 hc
    exact mf_X4_isElement_b16 hq f0 h
  · replace h := h.2 hc
    refine ⟨fun hc => ?_, fun hc => ?_⟩
    · replace h := h.1 hc
      exact mf_X4_isElement_b16 hq f0 h
    · replace h := h.2 hc
      exact hq _ _ h f0
set_option maxHeartbeats 1000000 in
theorem mf_X4_plus {Q Q' : Int → St → Prop} {σ0 : St} (hq : ∀ (r : Int) (σ1 : St), Q r σ1 → Fr S_X4_plus σ0 σ1 → Q' r σ1) {x1 x2 : Int} {σ : St} (f0 : Fr S_X4_plus σ0 σ) (h : wp_X4_plus x1 x2 σ Q) : wp_X4_plus x1 x2 σ Q' := by
  unfold wp_X4_plus at h ⊢
  refine ⟨h.1, ?_⟩; replace h := h.2
  exact hq _ _ h f0
set_option maxHeartbeats 1000000 in
theorem mf_X4_times {Q Q' : Int → St → Prop} {σ0 : St} (hq : ∀ (r : Int) (σ1 : St), Q r σ1 → Fr S_X4_times σ0 σ1 → Q' r σ1) {x1 x2 : Int} {σ : St} (f0 : Fr S_X4_times σ0 σ) (h : wp_X4_times x1 x2 σ Q) : wp_X4_times x1 x2 σ Q' := by
  unfold wp_X4_times at h ⊢
  refine ⟨h.1, ?_⟩; replace h := h.2
  exact hq _ _ h f0
set_option maxHeartbeats 1000000 in
theorem mf_X11_table {Q Q' : Int → St → Prop} {σ0 : St} (hq : ∀ (r : Int) (σ1 : St), Q r σ1 → Fr S_X11_table σ0 σ1 → Q' r σ1) {x1 x2 x3 : Int} {σ : St} (f0 : Fr S_X11_table σ0 σ) (h : wp_X11_table x1 x2 x3 σ Q) : wp_X11_table x1 x2 x3 σ Q' := by
  unfold wp_X11_table at h ⊢
  refine mf_X4_isElement (fun r1 σ2 h gσ2 => ?_) Fr.rf h
  have fσ2 : Fr S_X11_table σ0 σ2 := f0.tr gσ2 (mkS_sub (by decide) (by decide))
  refine ⟨fun hc => ?_, fun hc => ?_⟩
  · replace h := h.1 hc
    exact hq _ _ h fσ2
  · replace h := h.2 hc
    refine mf_X4_isElement (fun r3 σ4 h gσ4 => ?_) Fr.rf h
    have fσ4 : Fr S_X11_table σ0 σ4 := fσ2.tr gσ4 (mkS_sub (by decide) (by decide))
    refine ⟨fun hc => ?_, fun hc => ?_⟩
    · replace h := h.1 hc
      refine ⟨fun hs0 => ?_, fun hs1 => ?_, fun hs2 => ?_⟩
      · replace h := h.1 hs0
        refine mf_X4_plus (fun r5 σ6 h gσ6 => ?_) Fr.rf h
        have fσ6 : Fr S_X11_table σ0 σ6 := fσ4.tr gσ6 (mkS_sub (by decide) (by decide))
        exact hq _ _ h fσ6
      · replace h := h.2.1 hs1
        refine mf_X4_times (fun r7 σ8 h gσ8 => ?_) Fr.rf h
        have fσ8 : Fr S_X11_table σ0 σ8 := fσ4.tr gσ8 (mkS_sub (by decide) (by decide))
        exact hq _ _ h fσ8
      · replace h := h.2.2 hs2
        exact hq _ _ h fσ4
    · replace h := h.2 hc
      exact hq _ _ h fσ4
set_option maxHeartbeats 1000000 in
theorem mf_X11_drops_b33 {Q Q' : Int → St → Prop} {σ0 : St} (hq : ∀ (r : Int) (σ1 : St), Q r σ1 → Fr S_X11_drops σ0 σ1 → Q' r σ1) {x1 s0 : Int} {σ : St} (f0 : Fr S_X11_drops σ0 σ) (h : wp_X11_drops_b33 Q x1 s0 σ) : wp_X11_drops_b33 Q' x1 s0 σ := by
  unfold wp_X11_drops_b33 at h ⊢
  refine ⟨h.1, ?_⟩; replace h := h.2
  refine ⟨fun hc => ?_, fun hc => ?_⟩
  · replace h := h.1 hc
    refine ⟨h.1, fun σ3 eσ3 => ?_⟩; replace h := h.2 σ3 eσ3; have fσ3 : Fr S_X11_drops σ0 σ3 := by rw [eσ3]; exact f0.up rfl
    refine mf_X11_forgetCases (fun r4 σ5 h gσ5 => ?_) Fr.rf h
    have fσ5 : Fr S_X11_drops σ0 σ5 := fσ3.tr gσ5 (mkS_sub (by decide) (by decide))
    exact hq _ _ h fσ5
  · replace h := h.2 hc
    exact hq _ _ h f0
set_option maxHeartbeats 1000000 in
theorem mf_X11_drops {Q Q' : Int → St → Prop} {σ0 : St} (hq : ∀ (r : Int) (σ1 : St), Q r σ1 → Fr S_X11_drops σ0 σ1 → Q' r σ1) {x1 x2 : Int} {σ : St} (f0 : Fr S_X11_drops σ0 σ) (h : wp_X11_drops x1 x2 σ Q) : wp_X11_drops x1 x2 σ Q' := by
  unfold wp_X11_drops at h ⊢
  refine mf_X4_knows (fun r1 σ2 h gσ2 => ?_) Fr.rf h
  have fσ2 : Fr S_X11_drops σ0 σ2 := f0.tr gσ2 (mkS_sub (by decide) (by decide))
  refine ⟨fun hc => ?_, fun hc => ?_⟩
  · replace h := h.1 hc
    exact hq _ _ h fσ2
  · replace h := h.2 hc
    refine ⟨fun hc => ?_, fun hc => ?_⟩
    · replace h := h.1 hc
      exact hq _ _ h fσ2
    · replace h := h.2 hc
      refine ⟨fun hc => ?_, fun hc => ?_⟩
      · replace h := h.1 hc
        refine ⟨fun hc => ?_, fun hc => ?_⟩
        · replace h := h.1 hc
          exact mf_X11_drops_b33 hq fσ2 h
        · replace h := h.2 hc
          exact mf_X11_drops_b33 hq fσ2 h
      · replace h := h.2 hc
        exact hq _ _ h fσ2
set_option maxHeartbeats 1000000 in
theorem mf_X11_prices {Q Q' : Int → St → Prop} {σ0 : St} (hq : ∀ (r : Int) (σ1 : St), Q r σ1 → Fr S_X11_prices σ0 σ1 → Q' r σ1) {x1 x2 : Int} {σ : St} (f0 : Fr S_X11_prices σ0 σ) (h : wp_X11_prices x1 x2 σ Q) : wp_X11_prices x1 x2 σ Q' := by
  unfold wp_X11_prices at h ⊢
  refine mf_X4_knows (fun r1 σ2 h gσ2 => ?_) Fr.rf h
  have fσ2 : Fr S_X11_prices σ0 σ2 := f0.tr gσ2 (mkS_sub (by decide) (by decide))
  refine ⟨fun hc => ?_, fun hc => ?_⟩
  · replace h := h.1 hc
    exact hq _ _ h fσ2
  · replace h := h.2 hc
    refine ⟨fun hc => ?_, fun hc => ?_⟩
    · replace h := h.1 hc
      exact hq _ _ h fσ2
    · replace h := h.2 hc
      refine ⟨fun hc => ?_, fun hc => ?_⟩
      · replace h := h.1 hc
        refine ⟨h.1, ?_⟩; replace h := h.2
        intro v3 ev3; replace h := h v3 ev3
        refine ⟨fun hc => ?_, fun hc => ?_⟩
        · replace h := h.1 hc
          exact hq _ _ h fσ2
        · replace h := h.2 hc
          refine ⟨h.1, fun σ4 eσ4 => ?_⟩; replace h := h.2 σ4 eσ4; have fσ4 : Fr S_X11_prices σ0 σ4 := by rw [eσ4]; exact fσ2.up rfl
          refine mf_X11_forgetCosts (fun r5 σ6 h gσ6 => ?_) Fr.rf h
          have fσ6 : Fr S_X11_prices σ0 σ6 := fσ4.tr gσ6 (mkS_sub (by decide) (by decide))
          exact hq _ _ h fσ6
      · replace h := h.2 hc
        exact hq _ _ h fσ2
set_option maxHeartbeats 1000000 in
theorem mf_X11_elements {Q Q' : Int → St → Prop} {σ0 : St} (hq : ∀ (r : Int) (σ1 : St), Q r σ1 → Fr S_X11_elements σ0 σ1 → Q' r σ1) {x1 x2 : Int} {σ : St} (f0 : Fr S_X11_elements σ0 σ) (h : wp_X11_elements x1 x2 σ Q) : wp_X11_elements x1 x2 σ Q' := by
  unfold wp_X11_elements at h ⊢
  refine mf_X4_knows (fun r1 σ2 h gσ2 => ?_) Fr.rf h
  have fσ2 : Fr S_X11_elements σ0 σ2 := f0.tr gσ2 (mkS_sub (by decide) (by decide))
  refine ⟨fun hc => ?_, fun hc => ?_⟩
  · replace h := h.1 hc
    exact hq _ _ h fσ2
  · replace h := h.2 hc
    refine mf_X4_isElement (fun r3 σ4 h gσ4 => ?_) Fr.rf h
    have fσ4 : Fr S_X11_elements σ0 σ4 := fσ2.tr gσ4 (mkS_sub (by decide) (by decide))
    refine ⟨fun hc => ?_, fun hc => ?_⟩
    · replace h := h.1 hc
      refine ⟨h.1, ?_⟩; replace h := h.2
      intro v5 ev5; replace h := h v5 ev5
      refine ⟨fun hc => ?_, fun hc => ?_⟩
      · replace h := h.1 hc
        exact hq _ _ h fσ4
      · replace h := h.2 hc
        refine ⟨h.1, fun σ6 eσ6 => ?_⟩; replace h := h.2 σ6 eσ6; have fσ6 : Fr S_X11_elements σ0 σ6 := by rw [eσ6]; exact fσ4.up rfl
        refine mf_X9_forget (fun r7 σ8 h gσ8 => ?_) Fr.rf h
        have fσ8 : Fr S_X11_elements σ0 σ8 := fσ6.tr gσ8 (mkS_sub (by decide) (by decide))
        exact hq _ _ h fσ8
    · replace h := h.2 hc
      exact hq _ _ h fσ4
set_option maxHeartbeats 1000000 in
theorem mf_X0_itemAt {Q Q' : Int → St → Prop} {σ0 : St} (hq : ∀ (r : Int) (σ1 : St), Q r σ1 → Fr S_X0_itemAt σ0 σ1 → Q' r σ1) {x1 x2 x3 : Int} {σ : St} (f0 : Fr S_X0_itemAt σ0 σ) (h : wp_X0_itemAt x1 x2 x3 σ Q) : wp_X0_itemAt x1 x2 x3 σ Q' := by
  unfold wp_X0_itemAt at h ⊢
  refine ⟨h.1, ?_⟩; replace h := h.2
  exact hq _ _ h f0
set_option maxHeartbeats 1000000 in
theorem mf_X11_itemOf {Q Q' : Int → St → Prop} {σ0 : St} (hq : ∀ (r : Int) (σ1 : St), Q r σ1 → Fr S_X11_itemOf σ0 σ1 → Q' r σ1) {x1 x2 x3 : Int} {σ : St} (f0 : Fr S_X11_itemOf σ0 σ) (h : wp_X11_itemOf x1 x2 x3 σ Q) : wp_X11_itemOf x1 x2 x3 σ Q' := by
  unfold wp_X11_itemOf at h ⊢
  refine ⟨fun hc => ?_, fun hc => ?_⟩
  · replace h := h.1 hc
    exact hq _ _ h f0
  · replace h := h.2 hc
    refine ⟨fun hc => ?_, fun hc => ?_⟩
    · replace h := h.1 hc
      exact hq _ _ h f0
    · replace h := h.2 hc
      refine ⟨fun hc => ?_, fun hc => ?_⟩
      · replace h := h.1 hc
        exact hq _ _ h f0
      · replace h := h.2 hc
        refine ⟨fun hc => ?_, fun hc => ?_⟩
        · replace h := h.1 hc
          exact hq _ _ h f0
        · replace h := h.2 hc
          refine ⟨fun hc => ?_, fun hc => ?_⟩
          · replace h := h.1 hc
            refine mf_X0_build (fun r1 σ2 h gσ2 => ?_) Fr.rf h
            have fσ2 : Fr S_X11_itemOf σ0 σ2 := f0.tr gσ2 (mkS_sub (by decide) (by decide))
            refine mf_X0_itemAt (fun r3 σ4 h gσ4 => ?_) Fr.rf h
            have fσ4 : Fr S_X11_itemOf σ0 σ4 := fσ2.tr gσ4 (mkS_sub (by decide) (by decide))
            exact hq _ _ h fσ4
          · replace h := h.2 hc
            exact hq _ _ h f0
set_option maxHeartbeats 1000000 in
theorem mf_X1_lowestOf {Q Q' : Int → St → Prop} {σ0 : St} (hq : ∀ (r : Int) (σ1 : St), Q r σ1 → Fr S_X1_lowestOf σ0 σ1 → Q' r σ1) {x1 : Int} {σ : St} (f0 : Fr S_X1_lowestOf σ0 σ) (h : wp_X1_lowestOf x1 σ Q) : wp_X1_lowestOf x1 σ Q' := by
  unfold wp_X1_lowestOf at h ⊢
  refine mf_X1_prepare (fun r1 σ2 h gσ2 => ?_) Fr.rf h
  have fσ2 : Fr S_X1_lowestOf σ0 σ2 := f0.tr gσ2 (mkS_sub (by decide) (by decide))
  refine ⟨h.1, ?_⟩; replace h := h.2
  exact hq _ _ h fσ2
set_option maxHeartbeats 1000000 in
theorem mf_X11_can {Q Q' : Int → St → Prop} {σ0 : St} (hq : ∀ (r : Int) (σ1 : St), Q r σ1 → Fr S_X11_can σ0 σ1 → Q' r σ1) {x1 x2 x3 : Int} {σ : St} (f0 : Fr S_X11_can σ0 σ) (h : wp_X11_can x1 x2 x3 σ Q) : wp_X11_can x1 x2 x3 σ Q' := by
  unfold wp_X11_can at h ⊢
  refine mf_X11_itemOf (fun r1 σ2 h gσ2 => ?_) Fr.rf h
  have fσ2 : Fr S_X11_can σ0 σ2 := f0.tr gσ2 (mkS_sub (by decide) (by decide))
  refine ⟨fun hc => ?_, fun hc => ?_⟩
  · replace h := h.1 hc
    refine mf_X1_lowestOf (fun r3 σ4 h gσ4 => ?_) Fr.rf h
    have fσ4 : Fr S_X11_can σ0 σ4 := fσ2.tr gσ4 (mkS_sub (by decide) (by decide))
    refine ⟨fun hc => ?_, fun hc => ?_⟩
    · replace h := h.1 hc
      exact hq _ _ h fσ4
    · replace h := h.2 hc
      exact hq _ _ h fσ4
  · replace h := h.2 hc
    exact hq _ _ h fσ2
set_option maxHeartbeats 1000000 in
theorem mf_X11_least {Q Q' : Int → St → Prop} {σ0 : St} (hq : ∀ (r : Int) (σ1 : St), Q r σ1 → Fr S_X11_least σ0 σ1 → Q' r σ1) {x1 x2 x3 : Int} {σ : St} (f0 : Fr S_X11_least σ0 σ) (h : wp_X11_least x1 x2 x3 σ Q) : wp_X11_least x1 x2 x3 σ Q' := by
  unfold wp_X11_least at h ⊢
  refine mf_X11_itemOf (fun r1 σ2 h gσ2 => ?_) Fr.rf h
  have fσ2 : Fr S_X11_least σ0 σ2 := f0.tr gσ2 (mkS_sub (by decide) (by decide))
  refine ⟨fun hc => ?_, fun hc => ?_⟩
  · replace h := h.1 hc
    refine mf_X1_lowestOf (fun r3 σ4 h gσ4 => ?_) Fr.rf h
    have fσ4 : Fr S_X11_least σ0 σ4 := fσ2.tr gσ4 (mkS_sub (by decide) (by decide))
    exact hq _ _ h fσ4
  · replace h := h.2 hc
    exact hq _ _ h fσ2
set_option maxHeartbeats 1000000 in
theorem mf_X2_targets_b80 {Q Q' : Int → St → Prop} {σ0 : St} (hq : ∀ (r : Int) (σ1 : St), Q r σ1 → Fr S_X2_targets σ0 σ1 → Q' r σ1) {K5 K5' : Int → Int → Int → Int → St → Prop} (hK5 : ∀ (x1 : Int) (x2 : Int) (x3 : Int) (x4 : Int) (σ : St), Fr S_X2_targets σ0 σ → K5 x1 x2 x3 x4 σ → K5' x1 x2 x3 x4 σ) {x1 x2 x3 x4 : Int} {σ : St} (f0 : Fr S_X2_targets σ0 σ) (h : wp_X2_targets_b80 Q K5 x1 x2 x3 x4 σ) : wp_X2_targets_b80 Q' K5' x1 x2 x3 x4 σ := by
  unfold wp_X2_targets_b80 at h ⊢
  intro v5 ev5; replace h := h v5 ev5
  exact hK5 _ _ _ _ _ f0 h
set_option maxHeartbeats 1000000 in
theorem mf_X2_targets_l5 {Q Q' : Int → St → Prop} {σ0 : St} (hq : ∀ (r : Int) (σ1 : St), Q r σ1 → Fr S_X2_targets σ0 σ1 → Q' r σ1) : ∀ (n : Nat) (x1 : Int) (x2 : Int) (x3 : Int) (x4 : Int) (σ : St), Fr S_X2_targets σ0 σ → wp_X2_targets_l5 Q n x1 x2 x3 x4 σ → wp_X2_targets_l5 Q' n x1 x2 x3 x4 σ := by
  intro n
  induction n with
  | zero => intro _ _ _ _ _ _ h; exact h.elim
  | succ n ih =>
    intro x1 x2 x3 x4 σ f0 h
    unfold wp_X2_targets_l5 at h ⊢
    refine ⟨fun hc => ?_, fun hc => ?_⟩
    · replace h := h.1 hc
      exact hq _ _ h f0
    · replace h := h.2 hc
      refine ⟨h.1, ?_⟩; replace h := h.2
      intro v1 ev1; replace h := h v1 ev1
      refine ⟨h.1, ?_⟩; replace h := h.2
      refine ⟨fun hc => ?_, fun hc => ?_⟩
      · replace h := h.1 hc
        exact mf_X2_targets_b80 hq ih f0 h
      · replace h := h.2 hc
        refine ⟨h.1, ?_⟩; replace h := h.2
        refine mf_X1_has (fun r2 σ3 h gσ3 => ?_) Fr.rf h
        have fσ3 : Fr S_X2_targets σ0 σ3 := f0.tr gσ3 (mkS_sub (by decide) (by decide))
        refine ⟨fun hc => ?_, fun hc => ?_⟩
        · replace h := h.1 hc
          exact mf_X2_targets_b80 hq ih fσ3 h
        · replace h := h.2 hc
          refine ⟨h.1, ?_⟩; replace h := h.2
          intro v4 ev4; replace h := h v4 ev4
          exact mf_X2_targets_b80 hq ih fσ3 h
set_option maxHeartbeats 1000000 in
theorem mf_X2_targets {Q Q' : Int → St → Prop} {σ0 : St} (hq : ∀ (r : Int) (σ1 : St), Q r σ1 → Fr S_X2_targets σ0 σ1 → Q' r σ1) {x1 x2 : Int} {σ : St} (f0 : Fr S_X2_targets σ0 σ) (h : wp_X2_targets x1 x2 σ Q) : wp_X2_targets x1 x2 σ Q' := by
  unfold wp_X2_targets at h ⊢
  exact mf_X2_targets_l5 hq bigN _ _ _ _ _ f0 h
set_option maxHeartbeats 1000000 in
theorem mf_X2_labelsThatGoOn_b25 {Q Q' : Int → St → Prop} {σ0 : St} (hq : ∀ (r : Int) (σ1 : St), Q r σ1 → Fr S_X2_labelsThatGoOn σ0 σ1 → Q' r σ1) {K4 K4' : Int → Int → Int → St → Prop} (hK4 : ∀ (x1 : Int) (x2 : Int) (x3 : Int) (σ : St), Fr S_X2_labelsThatGoOn σ0 σ → K4 x1 x2 x3 σ → K4' x1 x2 x3 σ) {x1 x2 x3 : Int} {σ : St} (f0 : Fr S_X2_labelsThatGoOn σ0 σ) (h : wp_X2_labelsThatGoOn_b25 Q K4 x1 x2 x3 σ) : wp_X2_labelsThatGoOn_b25 Q' K4' x1 x2 x3 σ := by
  unfold wp_X2_labelsThatGoOn_b25 at h ⊢
  intro v4 ev4; replace h := h v4 ev4
  exact hK4 _ _ _ _ f0 h
set_option maxHeartbeats 1000000 in
theorem mf_X2_labelsThatGoOn_l4 {Q Q' : Int → St → Prop} {σ0 : St} (hq : ∀ (r : Int) (σ1 : St), Q r σ1 → Fr S_X2_labelsThatGoOn σ0 σ1 → Q' r σ1) : ∀ (n : Nat) (x1 : Int) (x2 : Int) (x3 : Int) (σ : St), Fr S_X2_labelsThatGoOn σ0 σ → wp_X2_labelsThatGoOn_l4 Q n x1 x2 x3 σ → wp_X2_labelsThatGoOn_l4 Q' n x1 x2 x3 σ := by
  intro n
  induction n with
  | zero => intro _ _ _ _ _ h; exact h.elim
  | succ n ih =>
    intro x1 x2 x3 σ f0 h
    unfold wp_X2_labelsThatGoOn_l4 at h ⊢
    refine ⟨fun hc => ?_, fun hc => ?_⟩
    · replace h := h.1 hc
      exact hq _ _ h f0
    · replace h := h.2 hc
      refine mf_X2_targets (fun r1 σ2 h gσ2 => ?_) Fr.rf h
      have fσ2 : Fr S_X2_labelsThatGoOn σ0 σ2 := f0.tr gσ2 (mkS_sub (by decide) (by decide))
      refine ⟨fun hc => ?_, fun hc => ?_⟩
      · replace h := h.1 hc
        exact mf_X2_labelsThatGoOn_b25 hq ih fσ2 h
      · replace h := h.2 hc
        intro v3 ev3; replace h := h v3 ev3
        exact mf_X2_labelsThatGoOn_b25 hq ih fσ2 h
set_option maxHeartbeats 1000000 in
theorem mf_X2_labelsThatGoOn {Q Q' : Int → St → Prop} {σ0 : St} (hq : ∀ (r : Int) (σ1 : St), Q r σ1 → Fr S_X2_labelsThatGoOn σ0 σ1 → Q' r σ1) {x1 : Int} {σ : St} (f0 : Fr S_X2_labelsThatGoOn σ0 σ) (h : wp_X2_labelsThatGoOn x1 σ Q) : wp_X2_labelsThatGoOn x1 σ Q' := by
  unfold wp_X2_labelsThatGoOn at h ⊢
  exact mf_X2_labelsThatGoOn_l4 hq bigN _ _ _ _ f0 h
set_option maxHeartbeats 1000000 in
theorem mf_X1_isFull_b44 {Q Q' : Int → St → Prop} {σ0 : St} (hq : ∀ (r : Int) (σ1 : St), Q r σ1 → Fr S_X1_isFull σ0 σ1 → Q' r σ1) {σ : St} (f0 : Fr S_X1_isFull σ0 σ) (h : wp_X1_isFull_b44 Q  σ) : wp_X1_isFull_b44 Q'  σ := by
  unfold wp_X1_isFull_b44 at h ⊢
  exact hq _ _ h f0
set_option maxHeartbeats 1000000 in
theorem mf_X1_isFull_b48 {Q Q' : Int → St → Prop} {σ0 : St} (hq : ∀ (r : Int) (σ1 : St), Q r σ1 → Fr S_X1_isFull σ0 σ1 → Q' r σ1) {σ : St} (f0 : Fr S_X1_isFull σ0 σ) (h : wp_X1_isFull_b48 Q  σ) : wp_X1_isFull_b48 Q'  σ := by
  unfold wp_X1_isFull_b48 at h ⊢
  exact hq _ _ h f0
set_option maxHeartbeats 1000000 in
theorem mf_X1_isFull_b32 {Q Q' : Int → St → Prop} {σ0 : St} (hq : ∀ (r : Int) (σ1 : St), Q r σ1 → Fr S_X1_isFull σ0 σ1 → Q' r σ1) {x3 : Int} {σ : St} (f0 : Fr S_X1_isFull σ0 σ) (h : wp_X1_isFull_b32 Q x3 σ) : wp_X1_isFull_b32 Q' x3 σ := by
  unfold wp_X1_isFull_b32 at h ⊢
  refine ⟨fun hc => ?_, fun hc => ?_⟩
  · replace h := h.1 hc
    exact mf_X1_isFull_b44 hq f0 h
  · replace h := h.2 hc
    refine mf_X1_has (fun r5 σ6 h gσ6 => ?_) Fr.rf h
    have fσ6 : Fr S_X1_isFull σ0 σ6 := f0.tr gσ6 (mkS_sub (by decide) (by decide))
    refine ⟨fun hc => ?_, fun hc => ?_⟩
    · replace h := h.1 hc
      exact mf_X1_isFull_b48 hq fσ6 h
    · replace h := h.2 hc
      exact mf_X1_isFull_b44 hq fσ6 h
set_option maxHeartbeats 1000000 in
theorem mf_X1_isFull {Q Q' : Int → St → Prop} {σ0 : St} (hq : ∀ (r : Int) (σ1 : St), Q r σ1 → Fr S_X1_isFull σ0 σ1 → Q' r σ1) {x1 : Int} {σ : St} (f0 : Fr S_X1_isFull σ0 σ) (h : wp_X1_isFull x1 σ Q) : wp_X1_isFull x1 σ Q' := by
  unfold wp_X1_isFull at h ⊢
  refine ⟨h.1, ?_⟩; replace h := h.2
  intro v1 ev1; replace h := h v1 ev1
  refine ⟨h.1, ?_⟩; replace h := h.2
  intro v2 ev2; replace h := h v2 ev2
  refine ⟨fun hc => ?_, fun hc => ?_⟩
  · replace h := h.1 hc
    exact mf_X1_isFull_b32 hq f0 h
  · replace h := h.2 hc
    refine mf_X1_has (fun r3 σ4 h gσ4 => ?_) Fr.rf h
    have fσ4 : Fr S_X1_isFull σ0 σ4 := f0.tr gσ4 (mkS_sub (by decide) (by decide))
    refine ⟨fun hc => ?_, fun hc => ?_⟩
    · replace h := h.1 hc
      exact mf_X1_isFull_b48 hq fσ4 h
    · replace h := h.2 hc
      exact mf_X1_isFull_b32 hq fσ4 h
set_option maxHeartbeats 1000000 in
theorem mf_X8_multiply_b63 {Q Q' : Int → St → Prop} {σ0 : St} (hq : ∀ (r : Int) (σ1 : St), Q r σ1 → Fr S_X8_multiply σ0 σ1 → Q' r σ1) {x0 x2 s0 : Int} {σ : St} (f0 : Fr S_X8_multiply σ0 σ) (h : wp_X8_multiply_b63 Q x0 x2 s0 σ) : wp_X8_multiply_b63 Q' x0 x2 s0 σ := by
  unfold wp_X8_multiply_b63 at h ⊢
  refine ⟨fun hc => ?_, fun hc => ?_⟩
  · replace h := h.1 hc
    exact hq _ _ h f0
  · replace h := h.2 hc
    exact hq _ _ h f0
set_option maxHeartbeats 1000000 in
theorem mf_X8_multiply_b48 {Q Q' : Int → St → Prop} {σ0 : St} (hq : ∀ (r : Int) (σ1 : St), Q r σ1 → Fr S_X8_multiply σ0 σ1 → Q' r σ1) {x0 x2 : Int} {σ : St} (f0 : Fr S_X8_multiply σ0 σ) (h : wp_X8_multiply_b48 Q x0 x2 σ) : wp_X8_multiply_b48 Q' x0 x2 σ := by
  unfold wp_X8_multiply_b48 at h ⊢
  refine ⟨h.1, ?_⟩; replace h := h.2
  refine ⟨fun hc => ?_, fun hc => ?_⟩
  · replace h := h.1 hc
    exact mf_X8_multiply_b63 hq f0 h
  · replace h := h.2 hc
    exact mf_X8_multiply_b63 hq f0 h
set_option maxHeartbeats 1000000 in
theorem mf_X8_multiply {Q Q' : Int → St → Prop} {σ0 : St} (hq : ∀ (r : Int) (σ1 : St), Q r σ1 → Fr S_X8_multiply σ0 σ1 → Q' r σ1) {x0 x2 : Int} {σ : St} (f0 : Fr S_X8_multiply σ0 σ) (h : wp_X8_multiply x0 x2 σ Q) : wp_X8_multiply x0 x2 σ Q' := by
  unfold wp_X8_multiply at h ⊢
  refine ⟨fun hc => ?_, fun hc => ?_⟩
  · replace h := h.1 hc
    exact hq _ _ h f0
  · replace h := h.2 hc
    refine ⟨fun hc => ?_, fun hc => ?_⟩
    · replace h := h.1 hc
      refine ⟨fun hc => ?_, fun hc => ?_⟩
      · replace h := h.1 hc
        exact mf_X8_multiply_b48 hq f0 h
      · replace h := h.2 hc
        refine ⟨fun hc => ?_, fun hc => ?_⟩
        · replace h := h.1 hc
          exact mf_X8_multiply_b48 hq f0 h
        · replace h := h.2 hc
          refine ⟨fun hc => ?_, fun hc => ?_⟩
          · replace h := h.1 hc
            exact mf_X8_multiply_b63 hq f0 h
          · replace h := h.2 hc
            exact mf_X8_multiply_b63 hq f0 h
    · replace h := h.2 hc
      exact hq _ _ h f0
set_option maxHeartbeats 1000000 in
theorem mf_X2_endlessProduct_b16 {Q Q' : Int → St → Prop} {σ0 : St} (hq : ∀ (r : Int) (σ1 : St), Q r σ1 → Fr S_X2_endlessProduct σ0 σ1 → Q' r σ1) {σ : St} (f0 : Fr S_X2_endlessProduct σ0 σ) (h : wp_X2_endlessProduct_b16 Q  σ) : wp_X2_endlessProduct_b16 Q'  σ := by
  unfold wp_X2_endlessProduct_b16 at h ⊢
  exact hq _ _ h f0
set_option maxHeartbeats 1000000 in
theorem mf_X2_endlessProduct {Q Q' : Int → St → Prop} {σ0 : St} (hq : ∀ (r : Int) (σ1 : St), Q r σ1 → Fr S_X2_endlessProduct σ0 σ1 → Q' r σ1) {x0 x2 : Int} {σ : St} (f0 : Fr S_X2_endlessProduct σ0 σ) (h : wp_X2_endlessProduct x0 x2 σ Q) : wp_X2_endlessProduct x0 x2 σ Q' := by
  unfold wp_X2_endlessProduct at h ⊢
  refine ⟨fun hc => ?_, fun hc => ?_⟩
  · replace h := h.1 hc
    exact mf_X2_endlessProduct_b16 hq f0 h
  · replace h := h.2 hc
    refine ⟨fun hc => ?_, fun hc => ?_⟩
    · replace h := h.1 hc
      refine mf_X8_multiply (fun r1 σ2 h gσ2 => ?_) Fr.rf h
      have fσ2 : Fr S_X2_endlessProduct σ0 σ2 := f0.tr gσ2 (mkS_sub (by decide) (by decide))
      exact hq _ _ h fσ2
    · replace h := h.2 hc
      exact mf_X2_endlessProduct_b16 hq f0 h
set_option maxHeartbeats 1000000 in
theorem mf_X8_add {Q Q' : Int → St → Prop} {σ0 : St} (hq : ∀ (r : Int) (σ1 : St), Q r σ1 → Fr S_X8_add σ0 σ1 → Q' r σ1) {x0 x2 : Int} {σ : St} (f0 : Fr S_X8_add σ0 σ) (h : wp_X8_add x0 x2 σ Q) : wp_X8_add x0 x2 σ Q' := by
  unfold wp_X8_add at h ⊢
  intro v1 ev1; replace h := h v1 ev1
  refine ⟨fun hc => ?_, fun hc => ?_⟩
  · replace h := h.1 hc
    exact hq _ _ h f0
  · replace h := h.2 hc
    exact hq _ _ h f0
set_option maxHeartbeats 1000000 in
theorem mf_X2_endlessSum_b16 {Q Q' : Int → St → Prop} {σ0 : St} (hq : ∀ (r : Int) (σ1 : St), Q r σ1 → Fr S_X2_endlessSum σ0 σ1 → Q' r σ1) {σ : St} (f0 : Fr S_X2_endlessSum σ0 σ) (h : wp_X2_endlessSum_b16 Q  σ) : wp_X2_endlessSum_b16 Q'  σ := by
  unfold wp_X2_endlessSum_b16 at h ⊢
  exact hq _ _ h f0
set_option maxHeartbeats 1000000 in
theorem mf_X2_endlessSum {Q Q' : Int → St → Prop} {σ0 : St} (hq : ∀ (r : Int) (σ1 : St), Q r σ1 → Fr S_X2_endlessSum σ0 σ1 → Q' r σ1) {x0 x2 : Int} {σ : St} (f0 : Fr S_X2_endlessSum σ0 σ) (h : wp_X2_endlessSum x0 x2 σ Q) : wp_X2_endlessSum x0 x2 σ Q' := by
  unfold wp_X2_endlessSum at h ⊢
  refine ⟨fun hc => ?_, fun hc => ?_⟩
  · replace h := h.1 hc
    exact mf_X2_endlessSum_b16 hq f0 h
  · replace h := h.2 hc
    refine ⟨fun hc => ?_, fun hc => ?_⟩
    · replace h := h.1 hc
      refine mf_X8_add (fun r1 σ2 h gσ2 => ?_) Fr.rf h
      have fσ2 : Fr S_X2_endlessSum σ0 σ2 := f0.tr gσ2 (mkS_sub (by decide) (by decide))
      exact hq _ _ h fσ2
    · replace h := h.2 hc
      exact mf_X2_endlessSum_b16 hq f0 h
set_option maxHeartbeats 1000000 in
theorem mf_X2_countCases_b129 {Q Q' : Int → St → Prop} {σ0 : St} (hq : ∀ (r : Int) (σ1 : St), Q r σ1 → Fr S_X2_countCases σ0 σ1 → Q' r σ1) {K12 K12' : Int → Int → Int → St → Prop} (hK12 : ∀ (x1 : Int) (x2 : Int) (x4 : Int) (σ : St), Fr S_X2_countCases σ0 σ → K12 x1 x2 x4 σ → K12' x1 x2 x4 σ) {x1 x2 x4 : Int} {σ : St} (f0 : Fr S_X2_countCases σ0 σ) (h : wp_X2_countCases_b129 Q K12 x1 x2 x4 σ) : wp_X2_countCases_b129 Q' K12' x1 x2 x4 σ := by
  unfold wp_X2_countCases_b129 at h ⊢
  intro v9 ev9; replace h := h v9 ev9
  exact hK12 _ _ _ _ f0 h
set_option maxHeartbeats 1000000 in
theorem mf_X2_countCases_b115 {Q Q' : Int → St → Prop} {σ0 : St} (hq : ∀ (r : Int) (σ1 : St), Q r σ1 → Fr S_X2_countCases σ0 σ1 → Q' r σ1) {K12 K12' : Int → Int → Int → St → Prop} (hK12 : ∀ (x1 : Int) (x2 : Int) (x4 : Int) (σ : St), Fr S_X2_countCases σ0 σ → K12 x1 x2 x4 σ → K12' x1 x2 x4 σ) {x1 x2 x4 x5 s0 : Int} {σ : St} (f0 : Fr S_X2_countCases σ0 σ) (h : wp_X2_countCases_b115 Q K12 x1 x2 x4 x5 s0 σ) : wp_X2_countCases_b115 Q' K12' x1 x2 x4 x5 s0 σ := by
  unfold wp_X2_countCases_b115 at h ⊢
  refine mf_X2_endlessProduct (fun r10 σ11 h gσ11 => ?_) Fr.rf h
  have fσ11 : Fr S_X2_countCases σ0 σ11 := f0.tr gσ11 (mkS_sub (by decide) (by decide))
  refine mf_X2_endlessSum (fun r12 σ13 h gσ13 => ?_) Fr.rf h
  have fσ13 : Fr S_X2_countCases σ0 σ13 := fσ11.tr gσ13 (mkS_sub (by decide) (by decide))
  exact mf_X2_countCases_b129 hq hK12 fσ13 h
set_option maxHeartbeats 1000000 in
theorem mf_X2_countCases_b81 {Q Q' : Int → St → Prop} {σ0 : St} (hq : ∀ (r : Int) (σ1 : St), Q r σ1 → Fr S_X2_countCases σ0 σ1 → Q' r σ1) {K12 K12' : Int → Int → Int → St → Prop} (hK12 : ∀ (x1 : Int) (x2 : Int) (x4 : Int) (σ : St), Fr S_X2_countCases σ0 σ → K12 x1 x2 x4 σ → K12' x1 x2 x4 σ) {x1 x2 x4 s0 : Int} {σ : St} (f0 : Fr S_X2_countCases σ0 σ) (h : wp_X2_countCases_b81 Q K12 x1 x2 x4 s0 σ) : wp_X2_countCases_b81 Q' K12' x1 x2 x4 s0 σ := by
  unfold wp_X2_countCases_b81 at h ⊢
  refine ⟨h.1, ?_⟩; replace h := h.2
  refine ⟨fun hc => ?_, fun hc => ?_⟩
  · replace h := h.1 hc
    refine ⟨h.1, ?_⟩; replace h := h.2
    refine ⟨h.1, ?_⟩; replace h := h.2
    exact mf_X2_countCases_b115 hq hK12 f0 h
  · replace h := h.2 hc
    exact mf_X2_countCases_b115 hq hK12 f0 h
set_option maxHeartbeats 1000000 in
theorem mf_X2_countCases_l12 {Q Q' : Int → St → Prop} {σ0 : St} (hq : ∀ (r : Int) (σ1 : St), Q r σ1 → Fr S_X2_countCases σ0 σ1 → Q' r σ1) : ∀ (n : Nat) (x1 : Int) (x2 : Int) (x4 : Int) (σ : St), Fr S_X2_countCases σ0 σ → wp_X2_countCases_l12 Q n x1 x2 x4 σ → wp_X2_countCases_l12 Q' n x1 x2 x4 σ := by
  intro n
  induction n with
  | zero => intro _ _ _ _ _ h; exact h.elim
  | succ n ih =>
    intro x1 x2 x4 σ f0 h
    unfold wp_X2_countCases_l12 at h ⊢
    refine mf_X0_caseEnd (fun r3 σ4 h gσ4 => ?_) Fr.rf h
    have fσ4 : Fr S_X2_countCases σ0 σ4 := f0.tr gσ4 (mkS_sub (by decide) (by decide))
    refine ⟨fun hc => ?_, fun hc => ?_⟩
    · replace h := h.1 hc
      exact hq _ _ h fσ4
    · replace h := h.2 hc
      refine mf_X0_goesOn (fun r5 σ6 h gσ6 => ?_) Fr.rf h
      have fσ6 : Fr S_X2_countCases σ0 σ6 := fσ4.tr gσ6 (mkS_sub (by decide) (by decide))
      refine ⟨fun hc => ?_, fun hc => ?_⟩
      · replace h := h.1 hc
        exact mf_X2_countCases_b129 hq ih fσ6 h
      · replace h := h.2 hc
        refine mf_X1_isFull (fun r7 σ8 h gσ8 => ?_) Fr.rf h
        have fσ8 : Fr S_X2_countCases σ0 σ8 := fσ6.tr gσ8 (mkS_sub (by decide) (by decide))
        refine ⟨fun hc => ?_, fun hc => ?_⟩
        · replace h := h.1 hc
          exact mf_X2_countCases_b129 hq ih fσ8 h
        · replace h := h.2 hc
          refine ⟨h.1, ?_⟩; replace h := h.2
          refine ⟨fun hc => ?_, fun hc => ?_⟩
          · replace h := h.1 hc
            refine ⟨h.1, ?_⟩; replace h := h.2
            refine ⟨h.1, ?_⟩; replace h := h.2
            exact mf_X2_countCases_b81 hq ih fσ8 h
          · replace h := h.2 hc
            exact mf_X2_countCases_b81 hq ih fσ8 h
set_option maxHeartbeats 1000000 in
theorem mf_X2_countCases {Q Q' : Int → St → Prop} {σ0 : St} (hq : ∀ (r : Int) (σ1 : St), Q r σ1 → Fr S_X2_countCases σ0 σ1 → Q' r σ1) {x1 : Int} {σ : St} (f0 : Fr S_X2_countCases σ0 σ) (h : wp_X2_countCases x1 σ Q) : wp_X2_countCases x1 σ Q' := by
  unfold wp_X2_countCases at h ⊢
  refine mf_X0_caseStart (fun r1 σ2 h gσ2 => ?_) Fr.rf h
  have fσ2 : Fr S_X2_countCases σ0 σ2 := f0.tr gσ2 (mkS_sub (by decide) (by decide))
  exact mf_X2_countCases_l12 hq bigN _ _ _ _ fσ2 h
set_option maxHeartbeats 1000000 in
theorem mf_X2_addTargets_b90 {Q Q' : Int → St → Prop} {σ0 : St} (hq : ∀ (r : Int) (σ1 : St), Q r σ1 → Fr S_X2_addTargets σ0 σ1 → Q' r σ1) {K2 K2' : Int → Int → Int → St → Prop} (hK2 : ∀ (x1 : Int) (x2 : Int) (x3 : Int) (σ : St), Fr S_X2_addTargets σ0 σ → K2 x1 x2 x3 σ → K2' x1 x2 x3 σ) {x1 x2 x3 : Int} {σ : St} (f0 : Fr S_X2_addTargets σ0 σ) (h : wp_X2_addTargets_b90 Q K2 x1 x2 x3 σ) : wp_X2_addTargets_b90 Q' K2' x1 x2 x3 σ := by
  unfold wp_X2_addTargets_b90 at h ⊢
  intro v8 ev8; replace h := h v8 ev8
  exact hK2 _ _ _ _ f0 h
set_option maxHeartbeats 1000000 in
theorem mf_X2_addTargets_l2 {Q Q' : Int → St → Prop} {σ0 : St} (hq : ∀ (r : Int) (σ1 : St), Q r σ1 → Fr S_X2_addTargets σ0 σ1 → Q' r σ1) : ∀ (n : Nat) (x1 : Int) (x2 : Int) (x3 : Int) (σ : St), Fr S_X2_addTargets σ0 σ → wp_X2_addTargets_l2 Q n x1 x2 x3 σ → wp_X2_addTargets_l2 Q' n x1 x2 x3 σ := by
  intro n
  induction n with
  | zero => intro _ _ _ _ _ h; exact h.elim
  | succ n ih =>
    intro x1 x2 x3 σ f0 h
    unfold wp_X2_addTargets_l2 at h ⊢
    refine ⟨fun hc => ?_, fun hc => ?_⟩
    · replace h := h.1 hc
      exact hq _ _ h f0
    · replace h := h.2 hc
      refine ⟨h.1, ?_⟩; replace h := h.2
      intro v1 ev1; replace h := h v1 ev1
      refine ⟨h.1, ?_⟩; replace h := h.2
      intro v2 ev2; replace h := h v2 ev2
      refine ⟨h.1, ?_⟩; replace h := h.2
      refine ⟨fun hc => ?_, fun hc => ?_⟩
      · replace h := h.1 hc
        exact mf_X2_addTargets_b90 hq ih f0 h
      · replace h := h.2 hc
        refine mf_X1_has (fun r3 σ4 h gσ4 => ?_) Fr.rf h
        have fσ4 : Fr S_X2_addTargets σ0 σ4 := f0.tr gσ4 (mkS_sub (by decide) (by decide))
        refine ⟨fun hc => ?_, fun hc => ?_⟩
        · replace h := h.1 hc
          exact mf_X2_addTargets_b90 hq ih fσ4 h
        · replace h := h.2 hc
          refine ⟨h.1, ?_⟩; replace h := h.2
          refine ⟨h.1, ?_⟩; replace h := h.2
          refine mf_X2_endlessSum (fun r5 σ6 h gσ6 => ?_) Fr.rf h
          have fσ6 : Fr S_X2_addTargets σ0 σ6 := fσ4.tr gσ6 (mkS_sub (by decide) (by decide))
          refine ⟨h.1, fun σ7 eσ7 => ?_⟩; replace h := h.2 σ7 eσ7; have fσ7 : Fr S_X2_addTargets σ0 σ7 := by rw [eσ7]; exact fσ6.up rfl
          exact mf_X2_addTargets_b90 hq ih fσ7 h
set_option maxHeartbeats 1000000 in
theorem mf_X2_addTargets {Q Q' : Int → St → Prop} {σ0 : St} (hq : ∀ (r : Int) (σ1 : St), Q r σ1 → Fr S_X2_addTargets σ0 σ1 → Q' r σ1) {x1 x2 : Int} {σ : St} (f0 : Fr S_X2_addTargets σ0 σ) (h : wp_X2_addTargets x1 x2 σ Q) : wp_X2_addTargets x1 x2 σ Q' := by
  unfold wp_X2_addTargets at h ⊢
  exact mf_X2_addTargets_l2 hq bigN _ _ _ _ f0 h
set_option maxHeartbeats 1000000 in
theorem mf_X2_countSpan_b93 {Q Q' : Int → St → Prop} {σ0 : St} (hq : ∀ (r : Int) (σ1 : St), Q r σ1 → Fr S_X2_countSpan σ0 σ1 → Q' r σ1) {K35 K35' : Int → Int → Int → St → Prop} (hK35 : ∀ (x1 : Int) (x2 : Int) (x3 : Int) (σ : St), Fr S_X2_countSpan σ0 σ → K35 x1 x2 x3 σ → K35' x1 x2 x3 σ) {K48 K48' : Int → Int → Int → Int → St → Prop} (hK48 : ∀ (x1 : Int) (x2 : Int) (x3 : Int) (x4 : Int) (σ : St), Fr S_X2_countSpan σ0 σ → K48 x1 x2 x3 x4 σ → K48' x1 x2 x3 x4 σ) {x1 x2 x3 x4 : Int} {σ : St} (f0 : Fr S_X2_countSpan σ0 σ) (h : wp_X2_countSpan_b93 Q K35 K48 x1 x2 x3 x4 σ) : wp_X2_countSpan_b93 Q' K35' K48' x1 x2 x3 x4 σ := by
  unfold wp_X2_countSpan_b93 at h ⊢
  intro v14 ev14; replace h := h v14 ev14
  exact hK48 _ _ _ _ _ f0 h
set_option maxHeartbeats 1000000 in
theorem mf_X2_countSpan_l48 {Q Q' : Int → St → Prop} {σ0 : St} (hq : ∀ (r : Int) (σ1 : St), Q r σ1 → Fr S_X2_countSpan σ0 σ1 → Q' r σ1) {K35 K35' : Int → Int → Int → St → Prop} (hK35 : ∀ (x1 : Int) (x2 : Int) (x3 : Int) (σ : St), Fr S_X2_countSpan σ0 σ → K35 x1 x2 x3 σ → K35' x1 x2 x3 σ) : ∀ (n : Nat) (x1 : Int) (x2 : Int) (x3 : Int) (x4 : Int) (σ : St), Fr S_X2_countSpan σ0 σ → wp_X2_countSpan_l48 Q K35 n x1 x2 x3 x4 σ → wp_X2_countSpan_l48 Q' K35' n x1 x2 x3 x4 σ := by
  intro n
  induction n with
  | zero => intro _ _ _ _ _ _ h; exact h.elim
  | succ n ih =>
    intro x1 x2 x3 x4 σ f0 h
    unfold wp_X2_countSpan_l48 at h ⊢
    refine ⟨fun hc => ?_, fun hc => ?_⟩
    · replace h := h.1 hc
      intro v7 ev7; replace h := h v7 ev7
      exact hK35 _ _ _ _ f0 h
    · replace h := h.2 hc
      refine ⟨fun hc => ?_, fun hc => ?_⟩
      · replace h := h.1 hc
        exact mf_X2_countSpan_b93 hq hK35 ih f0 h
      · replace h := h.2 hc
        refine mf_X2_targets (fun r8 σ9 h gσ9 => ?_) Fr.rf h
        have fσ9 : Fr S_X2_countSpan σ0 σ9 := f0.tr gσ9 (mkS_sub (by decide) (by decide))
        refine ⟨fun hc => ?_, fun hc => ?_⟩
        · replace h := h.1 hc
          exact mf_X2_countSpan_b93 hq hK35 ih fσ9 h
        · replace h := h.2 hc
          refine mf_X2_addTargets (fun r10 σ11 h gσ11 => ?_) Fr.rf h
          have fσ11 : Fr S_X2_countSpan σ0 σ11 := fσ9.tr gσ11 (mkS_sub (by decide) (by decide))
          intro v12 ev12; replace h := h v12 ev12
          exact mf_X2_countSpan_b93 hq hK35 ih fσ11 h
set_option maxHeartbeats 1000000 in
theorem mf_X2_countSpan_b133 {Q Q' : Int → St → Prop} {σ0 : St} (hq : ∀ (r : Int) (σ1 : St), Q r σ1 → Fr S_X2_countSpan σ0 σ1 → Q' r σ1) {K107 K107' : Int → Int → Int → St → Prop} (hK107 : ∀ (x1 : Int) (x2 : Int) (x3 : Int) (σ : St), Fr S_X2_countSpan σ0 σ → K107 x1 x2 x3 σ → K107' x1 x2 x3 σ) {x1 x2 x3 : Int} {σ : St} (f0 : Fr S_X2_countSpan σ0 σ) (h : wp_X2_countSpan_b133 Q K107 x1 x2 x3 σ) : wp_X2_countSpan_b133 Q' K107' x1 x2 x3 σ := by
  unfold wp_X2_countSpan_b133 at h ⊢
  intro v15 ev15; replace h := h v15 ev15
  exact hK107 _ _ _ _ f0 h
set_option maxHeartbeats 1000000 in
theorem mf_X2_countSpan_l107 {Q Q' : Int → St → Prop} {σ0 : St} (hq : ∀ (r : Int) (σ1 : St), Q r σ1 → Fr S_X2_countSpan σ0 σ1 → Q' r σ1) : ∀ (n : Nat) (x1 : Int) (x2 : Int) (x3 : Int) (σ : St), Fr S_X2_countSpan σ0 σ → wp_X2_countSpan_l107 Q n x1 x2 x3 σ → wp_X2_countSpan_l107 Q' n x1 x2 x3 σ := by
  intro n
  induction n with
  | zero => intro _ _ _ _ _ h; exact h.elim
  | succ n ih =>
    intro x1 x2 x3 σ f0 h
    unfold wp_X2_countSpan_l107 at h ⊢
    refine ⟨fun hc => ?_, fun hc => ?_⟩
    · replace h := h.1 hc
      exact hq _ _ h f0
    · replace h := h.2 hc
      refine ⟨fun hc => ?_, fun hc => ?_⟩
      · replace h := h.1 hc
        exact mf_X2_countSpan_b133 hq ih f0 h
      · replace h := h.2 hc
        refine ⟨h.1, fun σ13 eσ13 => ?_⟩; replace h := h.2 σ13 eσ13; have fσ13 : Fr S_X2_countSpan σ0 σ13 := by rw [eσ13]; exact f0.up rfl
        exact mf_X2_countSpan_b133 hq ih fσ13 h
set_option maxHeartbeats 1000000 in
theorem mf_X2_countSpan_b105 {Q Q' : Int → St → Prop} {σ0 : St} (hq : ∀ (r : Int) (σ1 : St), Q r σ1 → Fr S_X2_countSpan σ0 σ1 → Q' r σ1) {x1 x2 : Int} {σ : St} (f0 : Fr S_X2_countSpan σ0 σ) (h : wp_X2_countSpan_b105 Q x1 x2 σ) : wp_X2_countSpan_b105 Q' x1 x2 σ := by
  unfold wp_X2_countSpan_b105 at h ⊢
  exact mf_X2_countSpan_l107 hq bigN _ _ _ _ f0 h
set_option maxHeartbeats 1000000 in
theorem mf_X2_countSpan_l35 {Q Q' : Int → St → Prop} {σ0 : St} (hq : ∀ (r : Int) (σ1 : St), Q r σ1 → Fr S_X2_countSpan σ0 σ1 → Q' r σ1) : ∀ (n : Nat) (x1 : Int) (x2 : Int) (x3 : Int) (σ : St), Fr S_X2_countSpan σ0 σ → wp_X2_countSpan_l35 Q n x1 x2 x3 σ → wp_X2_countSpan_l35 Q' n x1 x2 x3 σ := by
  intro n
  induction n with
  | zero => intro _ _ _ _ _ h; exact h.elim
  | succ n ih =>
    intro x1 x2 x3 σ f0 h
    unfold wp_X2_countSpan_l35 at h ⊢
    refine ⟨fun hc => ?_, fun hc => ?_⟩
    · replace h := h.1 hc
      exact mf_X2_countSpan_b105 hq f0 h
    · replace h := h.2 hc
      refine ⟨fun hc => ?_, fun hc => ?_⟩
      · replace h := h.1 hc
        exact mf_X2_countSpan_b105 hq f0 h
      · replace h := h.2 hc
        exact mf_X2_countSpan_l48 hq ih bigN _ _ _ _ _ f0 h
set_option maxHeartbeats 1000000 in
theorem mf_X2_countSpan_l2 {Q Q' : Int → St → Prop} {σ0 : St} (hq : ∀ (r : Int) (σ1 : St), Q r σ1 → Fr S_X2_countSpan σ0 σ1 → Q' r σ1) : ∀ (n : Nat) (x1 : Int) (x2 : Int) (σ : St), Fr S_X2_countSpan σ0 σ → wp_X2_countSpan_l2 Q n x1 x2 σ → wp_X2_countSpan_l2 Q' n x1 x2 σ := by
  intro n
  induction n with
  | zero => intro _ _ _ _ h; exact h.elim
  | succ n ih =>
    intro x1 x2 σ f0 h
    unfold wp_X2_countSpan_l2 at h ⊢
    refine ⟨fun hc => ?_, fun hc => ?_⟩
    · replace h := h.1 hc
      refine mf_X2_labelsThatGoOn (fun r1 σ2 h gσ2 => ?_) Fr.rf h
      have fσ2 : Fr S_X2_countSpan σ0 σ2 := f0.tr gσ2 (mkS_sub (by decide) (by decide))
      exact mf_X2_countSpan_l35 hq bigN _ _ _ _ fσ2 h
    · replace h := h.2 hc
      refine mf_X2_countCases (fun r3 σ4 h gσ4 => ?_) Fr.rf h
      have fσ4 : Fr S_X2_countSpan σ0 σ4 := f0.tr gσ4 (mkS_sub (by decide) (by decide))
      refine ⟨h.1, fun σ5 eσ5 => ?_⟩; replace h := h.2 σ5 eσ5; have fσ5 : Fr S_X2_countSpan σ0 σ5 := by rw [eσ5]; exact fσ4.up rfl
      intro v6 ev6; replace h := h v6 ev6
      exact ih _ _ _ fσ5 h
set_option maxHeartbeats 1000000 in
theorem mf_X2_countSpan {Q Q' : Int → St → Prop} {σ0 : St} (hq : ∀ (r : Int) (σ1 : St), Q r σ1 → Fr S_X2_countSpan σ0 σ1 → Q' r σ1) {x1 : Int} {σ : St} (f0 : Fr S_X2_countSpan σ0 σ) (h : wp_X2_countSpan x1 σ Q) : wp_X2_countSpan x1 σ Q' := by
  unfold wp_X2_countSpan at h ⊢
  exact mf_X2_countSpan_l2 hq bigN _ _ _ f0 h
set_option maxHeartbeats 1000000 in
theorem mf_X2_treesOf_b46 {Q Q' : Int → St → Prop} {σ0 : St} (hq : ∀ (r : Int) (σ1 : St), Q r σ1 → Fr S_X2_treesOf σ0 σ1 → Q' r σ1) {x1 : Int} {σ : St} (f0 : Fr S_X2_treesOf σ0 σ) (h : wp_X2_treesOf_b46 Q x1 σ) : wp_X2_treesOf_b46 Q' x1 σ := by
  unfold wp_X2_treesOf_b46 at h ⊢
  refine ⟨h.1, ?_⟩; replace h := h.2
  exact hq _ _ h f0
set_option maxHeartbeats 1000000 in
theorem mf_X2_treesOf_l21 {Q Q' : Int → St → Prop} {σ0 : St} (hq : ∀ (r : Int) (σ1 : St), Q r σ1 → Fr S_X2_treesOf σ0 σ1 → Q' r σ1) : ∀ (n : Nat) (x1 : Int) (x2 : Int) (σ : St), Fr S_X2_treesOf σ0 σ → wp_X2_treesOf_l21 Q n x1 x2 σ → wp_X2_treesOf_l21 Q' n x1 x2 σ := by
  intro n
  induction n with
  | zero => intro _ _ _ _ h; exact h.elim
  | succ n ih =>
    intro x1 x2 σ f0 h
    unfold wp_X2_treesOf_l21 at h ⊢
    refine ⟨fun hc => ?_, fun hc => ?_⟩
    · replace h := h.1 hc
      exact mf_X2_treesOf_b46 hq f0 h
    · replace h := h.2 hc
      refine mf_X2_countSpan (fun r4 σ5 h gσ5 => ?_) Fr.rf h
      have fσ5 : Fr S_X2_treesOf σ0 σ5 := f0.tr gσ5 (mkS_sub (by decide) (by decide))
      intro v6 ev6; replace h := h v6 ev6
      exact ih _ _ _ fσ5 h
set_option maxHeartbeats 1000000 in
theorem mf_X2_treesOf {Q Q' : Int → St → Prop} {σ0 : St} (hq : ∀ (r : Int) (σ1 : St), Q r σ1 → Fr S_X2_treesOf σ0 σ1 → Q' r σ1) {x1 : Int} {σ : St} (f0 : Fr S_X2_treesOf σ0 σ) (h : wp_X2_treesOf x1 σ Q) : wp_X2_treesOf x1 σ Q' := by
  unfold wp_X2_treesOf at h ⊢
  refine mf_X1_prepare (fun r1 σ2 h gσ2 => ?_) Fr.rf h
  have fσ2 : Fr S_X2_treesOf σ0 σ2 := f0.tr gσ2 (mkS_sub (by decide) (by decide))
  refine ⟨fun hc => ?_, fun hc => ?_⟩
  · replace h := h.1 hc
    exact mf_X2_treesOf_b46 hq fσ2 h
  · replace h := h.2 hc
    intro σ3 eσ3; replace h := h σ3 eσ3; have fσ3 : Fr S_X2_treesOf σ0 σ3 := by rw [eσ3]; exact fσ2.up rfl
    exact mf_X2_treesOf_l21 hq bigN _ _ _ fσ3 h
set_option maxHeartbeats 1000000 in
theorem mf_X11_tellNumber {Q Q' : Int → St → Prop} {σ0 : St} (hq : ∀ (r : Int) (σ1 : St), Q r σ1 → Fr S_X11_tellNumber σ0 σ1 → Q' r σ1) {x0 : Int} {σ : St} (f0 : Fr S_X11_tellNumber σ0 σ) (h : wp_X11_tellNumber x0 σ Q) : wp_X11_tellNumber x0 σ Q' := by
  unfold wp_X11_tellNumber at h ⊢
  refine ⟨fun hc => ?_, fun hc => ?_⟩
  · replace h := h.1 hc
    exact hq _ _ h f0
  · replace h := h.2 hc
    exact hq _ _ h f0
set_option maxHeartbeats 1000000 in
theorem mf_X11_ways {Q Q' : Int → St → Prop} {σ0 : St} (hq : ∀ (r : Int) (σ1 : St), Q r σ1 → Fr S_X11_ways σ0 σ1 → Q' r σ1) {x1 x2 x3 : Int} {σ : St} (f0 : Fr S_X11_ways σ0 σ) (h : wp_X11_ways x1 x2 x3 σ Q) : wp_X11_ways x1 x2 x3 σ Q' := by
  unfold wp_X11_ways at h ⊢
  refine mf_X11_itemOf (fun r1 σ2 h gσ2 => ?_) Fr.rf h
  have fσ2 : Fr S_X11_ways σ0 σ2 := f0.tr gσ2 (mkS_sub (by decide) (by decide))
  refine ⟨fun hc => ?_, fun hc => ?_⟩
  · replace h := h.1 hc
    refine mf_X2_treesOf (fun r3 σ4 h gσ4 => ?_) Fr.rf h
    have fσ4 : Fr S_X11_ways σ0 σ4 := fσ2.tr gσ4 (mkS_sub (by decide) (by decide))
    refine mf_X11_tellNumber (fun r5 σ6 h gσ6 => ?_) Fr.rf h
    have fσ6 : Fr S_X11_ways σ0 σ6 := fσ4.tr gσ6 (mkS_sub (by decide) (by decide))
    exact hq _ _ h fσ6
  · replace h := h.2 hc
    exact hq _ _ h fσ2
set_option maxHeartbeats 1000000 in
theorem mf_X1_leastOfCases_c38_b159 {Q Q' : Int → St → Prop} {σ0 : St} (hq : ∀ (r : Int) (σ1 : St), Q r σ1 → Fr S_X1_leastOfCases_c38 σ0 σ1 → Q' r σ1) {K13 K13' : Int → Int → Int → Int → Int → St → Prop} (hK13 : ∀ (x2 : Int) (x3 : Int) (x4 : Int) (x5 : Int) (x6 : Int) (σ : St), Fr S_X1_leastOfCases_c38 σ0 σ → K13 x2 x3 x4 x5 x6 σ → K13' x2 x3 x4 x5 x6 σ) {x2 x3 x4 x5 x6 : Int} {σ : St} (f0 : Fr S_X1_leastOfCases_c38 σ0 σ) (h : wp_X1_leastOfCases_c38_b159 Q K13 x2 x3 x4 x5 x6 σ) : wp_X1_leastOfCases_c38_b159 Q' K13' x2 x3 x4 x5 x6 σ := by
  unfold wp_X1_leastOfCases_c38_b159 at h ⊢
  intro v8 ev8; replace h := h v8 ev8
  exact hK13 _ _ _ _ _ _ f0 h
set_option maxHeartbeats 1000000 in
theorem mf_X1_leastOfCases_c38_b116 {Q Q' : Int → St → Prop} {σ0 : St} (hq : ∀ (r : Int) (σ1 : St), Q r σ1 → Fr S_X1_leastOfCases_c38 σ0 σ1 → Q' r σ1) {K13 K13' : Int → Int → Int → Int → Int → St → Prop} (hK13 : ∀ (x2 : Int) (x3 : Int) (x4 : Int) (x5 : Int) (x6 : Int) (σ : St), Fr S_X1_leastOfCases_c38 σ0 σ → K13 x2 x3 x4 x5 x6 σ → K13' x2 x3 x4 x5 x6 σ) {x2 x3 x4 x5 x6 x7 x8 s0 : Int} {σ : St} (f0 : Fr S_X1_leastOfCases_c38 σ0 σ) (h : wp_X1_leastOfCases_c38_b116 Q K13 x2 x3 x4 x5 x6 x7 x8 s0 σ) : wp_X1_leastOfCases_c38_b116 Q' K13' x2 x3 x4 x5 x6 x7 x8 s0 σ := by
  unfold wp_X1_leastOfCases_c38_b116 at h ⊢
  refine ⟨fun hc => ?_, fun hc => ?_⟩
  · replace h := h.1 hc
    exact mf_X1_leastOfCases_c38_b159 hq hK13 f0 h
  · replace h := h.2 hc
    refine ⟨fun hc => ?_, fun hc => ?_⟩
    · replace h := h.1 hc
      exact mf_X1_leastOfCases_c38_b159 hq hK13 f0 h
    · replace h := h.2 hc
      refine ⟨h.1, ?_⟩; replace h := h.2
      refine mf_X1_join (fun r9 σ10 h gσ10 => ?_) Fr.rf h
      have fσ10 : Fr S_X1_leastOfCases_c38 σ0 σ10 := f0.tr gσ10 (mkS_sub (by decide) (by decide))
      refine mf_X1_join (fun r11 σ12 h gσ12 => ?_) Fr.rf h
      have fσ12 : Fr S_X1_leastOfCases_c38 σ0 σ12 := fσ10.tr gσ12 (mkS_sub (by decide) (by decide))
      refine mf_X1_lesser (fun r13 σ14 h gσ14 => ?_) Fr.rf h
      have fσ14 : Fr S_X1_leastOfCases_c38 σ0 σ14 := fσ12.tr gσ14 (mkS_sub (by decide) (by decide))
      exact mf_X1_leastOfCases_c38_b159 hq hK13 fσ14 h
set_option maxHeartbeats 1000000 in
theorem mf_X1_leastOfCases_c38_b85 {Q Q' : Int → St → Prop} {σ0 : St} (hq : ∀ (r : Int) (σ1 : St), Q r σ1 → Fr S_X1_leastOfCases_c38 σ0 σ1 → Q' r σ1) {K13 K13' : Int → Int → Int → Int → Int → St → Prop} (hK13 : ∀ (x2 : Int) (x3 : Int) (x4 : Int) (x5 : Int) (x6 : Int) (σ : St), Fr S_X1_leastOfCases_c38 σ0 σ → K13 x2 x3 x4 x5 x6 σ → K13' x2 x3 x4 x5 x6 σ) {x2 x3 x4 x5 x6 x7 s0 : Int} {σ : St} (f0 : Fr S_X1_leastOfCases_c38 σ0 σ) (h : wp_X1_leastOfCases_c38_b85 Q K13 x2 x3 x4 x5 x6 x7 s0 σ) : wp_X1_leastOfCases_c38_b85 Q' K13' x2 x3 x4 x5 x6 x7 s0 σ := by
  unfold wp_X1_leastOfCases_c38_b85 at h ⊢
  refine ⟨h.1, ?_⟩; replace h := h.2
  refine ⟨fun hc => ?_, fun hc => ?_⟩
  · replace h := h.1 hc
    refine ⟨h.1, ?_⟩; replace h := h.2
    refine ⟨h.1, ?_⟩; replace h := h.2
    exact mf_X1_leastOfCases_c38_b116 hq hK13 f0 h
  · replace h := h.2 hc
    exact mf_X1_leastOfCases_c38_b116 hq hK13 f0 h
set_option maxHeartbeats 1000000 in
theorem mf_X1_leastOfCases_c38_l13 {Q Q' : Int → St → Prop} {σ0 : St} (hq : ∀ (r : Int) (σ1 : St), Q r σ1 → Fr S_X1_leastOfCases_c38 σ0 σ1 → Q' r σ1) : ∀ (n : Nat) (x2 : Int) (x3 : Int) (x4 : Int) (x5 : Int) (x6 : Int) (σ : St), Fr S_X1_leastOfCases_c38 σ0 σ → wp_X1_leastOfCases_c38_l13 Q n x2 x3 x4 x5 x6 σ → wp_X1_leastOfCases_c38_l13 Q' n x2 x3 x4 x5 x6 σ := by
  intro n
  induction n with
  | zero => intro _ _ _ _ _ _ _ h; exact h.elim
  | succ n ih =>
    intro x2 x3 x4 x5 x6 σ f0 h
    unfold wp_X1_leastOfCases_c38_l13 at h ⊢
    refine mf_X0_caseEnd (fun r3 σ4 h gσ4 => ?_) Fr.rf h
    have fσ4 : Fr S_X1_leastOfCases_c38 σ0 σ4 := f0.tr gσ4 (mkS_sub (by decide) (by decide))
    refine ⟨fun hc => ?_, fun hc => ?_⟩
    · replace h := h.1 hc
      exact hq _ _ h fσ4
    · replace h := h.2 hc
      refine ⟨h.1, ?_⟩; replace h := h.2
      intro v5 ev5; replace h := h v5 ev5
      refine ⟨fun hc => ?_, fun hc => ?_⟩
      · replace h := h.1 hc
        exact mf_X1_leastOfCases_c38_b159 hq ih fσ4 h
      · replace h := h.2 hc
        refine mf_X0_goesOn (fun r6 σ7 h gσ7 => ?_) Fr.rf h
        have fσ7 : Fr S_X1_leastOfCases_c38 σ0 σ7 := fσ4.tr gσ7 (mkS_sub (by decide) (by decide))
        refine ⟨fun hc => ?_, fun hc => ?_⟩
        · replace h := h.1 hc
          exact mf_X1_leastOfCases_c38_b159 hq ih fσ7 h
        · replace h := h.2 hc
          refine ⟨h.1, ?_⟩; replace h := h.2
          refine ⟨fun hc => ?_, fun hc => ?_⟩
          · replace h := h.1 hc
            refine ⟨h.1, ?_⟩; replace h := h.2
            refine ⟨h.1, ?_⟩; replace h := h.2
            exact mf_X1_leastOfCases_c38_b85 hq ih fσ7 h
          · replace h := h.2 hc
            exact mf_X1_leastOfCases_c38_b85 hq ih fσ7 h
set_option maxHeartbeats 1000000 in
theorem mf_X1_leastOfCases_c38 {Q Q' : Int → St → Prop} {σ0 : St} (hq : ∀ (r : Int) (σ1 : St), Q r σ1 → Fr S_X1_leastOfCases_c38 σ0 σ1 → Q' r σ1) {x2 x3 x4 : Int} {σ : St} (f0 : Fr S_X1_leastOfCases_c38 σ0 σ) (h : wp_X1_leastOfCases_c38 x2 x3 x4 σ Q) : wp_X1_leastOfCases_c38 x2 x3 x4 σ Q' := by
  unfold wp_X1_leastOfCases_c38 at h ⊢
  refine mf_X0_caseStart (fun r1 σ2 h gσ2 => ?_) Fr.rf h
  have fσ2 : Fr S_X1_leastOfCases_c38 σ0 σ2 := f0.tr gσ2 (mkS_sub (by decide) (by decide))
  exact mf_X1_leastOfCases_c38_l13 hq bigN _ _ _ _ _ _ fσ2 h
set_option maxHeartbeats 1000000 in
theorem mf_X1_relax_c38_b122 {Q Q' : Int → St → Prop} {σ0 : St} (hq : ∀ (r : Int) (σ1 : St), Q r σ1 → Fr S_X1_relax_c38 σ0 σ1 → Q' r σ1) {K6 K6' : Int → Int → Int → Int → Int → St → Prop} (hK6 : ∀ (x2 : Int) (x3 : Int) (x4 : Int) (x5 : Int) (x6 : Int) (σ : St), Fr S_X1_relax_c38 σ0 σ → K6 x2 x3 x4 x5 x6 σ → K6' x2 x3 x4 x5 x6 σ) {x2 x3 x4 x5 x6 : Int} {σ : St} (f0 : Fr S_X1_relax_c38 σ0 σ) (h : wp_X1_relax_c38_b122 Q K6 x2 x3 x4 x5 x6 σ) : wp_X1_relax_c38_b122 Q' K6' x2 x3 x4 x5 x6 σ := by
  unfold wp_X1_relax_c38_b122 at h ⊢
  intro v8 ev8; replace h := h v8 ev8
  exact hK6 _ _ _ _ _ _ f0 h
set_option maxHeartbeats 1000000 in
theorem mf_X1_relax_c38_b113 {Q Q' : Int → St → Prop} {σ0 : St} (hq : ∀ (r : Int) (σ1 : St), Q r σ1 → Fr S_X1_relax_c38 σ0 σ1 → Q' r σ1) {K6 K6' : Int → Int → Int → Int → Int → St → Prop} (hK6 : ∀ (x2 : Int) (x3 : Int) (x4 : Int) (x5 : Int) (x6 : Int) (σ : St), Fr S_X1_relax_c38 σ0 σ → K6 x2 x3 x4 x5 x6 σ → K6' x2 x3 x4 x5 x6 σ) {x2 x3 x4 x6 x9 x10 s0 s1 : Int} {σ : St} (f0 : Fr S_X1_relax_c38 σ0 σ) (h : wp_X1_relax_c38_b113 Q K6 x2 x3 x4 x6 x9 x10 s0 s1 σ) : wp_X1_relax_c38_b113 Q' K6' x2 x3 x4 x6 x9 x10 s0 s1 σ := by
  unfold wp_X1_relax_c38_b113 at h ⊢
  intro v9 ev9; replace h := h v9 ev9
  refine ⟨h.1, fun σ10 eσ10 => ?_⟩; replace h := h.2 σ10 eσ10; have fσ10 : Fr S_X1_relax_c38 σ0 σ10 := by rw [eσ10]; exact f0.up rfl
  exact mf_X1_relax_c38_b122 hq hK6 fσ10 h
set_option maxHeartbeats 1000000 in
theorem mf_X1_relax_c38_l6 {Q Q' : Int → St → Prop} {σ0 : St} (hq : ∀ (r : Int) (σ1 : St), Q r σ1 → Fr S_X1_relax_c38 σ0 σ1 → Q' r σ1) : ∀ (n : Nat) (x2 : Int) (x3 : Int) (x4 : Int) (x5 : Int) (x6 : Int) (σ : St), Fr S_X1_relax_c38 σ0 σ → wp_X1_relax_c38_l6 Q n x2 x3 x4 x5 x6 σ → wp_X1_relax_c38_l6 Q' n x2 x3 x4 x5 x6 σ := by
  intro n
  induction n with
  | zero => intro _ _ _ _ _ _ _ h; exact h.elim
  | succ n ih =>
    intro x2 x3 x4 x5 x6 σ f0 h
    unfold wp_X1_relax_c38_l6 at h ⊢
    refine ⟨fun hc => ?_, fun hc => ?_⟩
    · replace h := h.1 hc
      exact ⟨h.1, hq _ _ h.2 f0⟩
    · replace h := h.2 hc
      refine ⟨h.1, ?_⟩; replace h := h.2
      intro v1 ev1; replace h := h v1 ev1
      refine ⟨h.1, ?_⟩; replace h := h.2
      refine ⟨h.1, ?_⟩; replace h := h.2
      intro v2 ev2; replace h := h v2 ev2
      refine ⟨h.1, ?_⟩; replace h := h.2
      intro v3 ev3; replace h := h v3 ev3
      refine ⟨fun hc => ?_, fun hc => ?_⟩
      · replace h := h.1 hc
        exact mf_X1_relax_c38_b122 hq ih f0 h
      · replace h := h.2 hc
        refine ⟨fun hc => ?_, fun hc => ?_⟩
        · replace h := h.1 hc
          exact mf_X1_relax_c38_b122 hq ih f0 h
        · replace h := h.2 hc
          refine ⟨h.1, ?_⟩; replace h := h.2
          refine ⟨h.1, ?_⟩; replace h := h.2
          refine mf_X1_join (fun r4 σ5 h gσ5 => ?_) Fr.rf h
          have fσ5 : Fr S_X1_relax_c38 σ0 σ5 := f0.tr gσ5 (mkS_sub (by decide) (by decide))
          refine mf_X1_lesser (fun r6 σ7 h gσ7 => ?_) Fr.rf h
          have fσ7 : Fr S_X1_relax_c38 σ0 σ7 := fσ5.tr gσ7 (mkS_sub (by decide) (by decide))
          refine ⟨h.1, ?_⟩; replace h := h.2
          refine ⟨fun hc => ?_, fun hc => ?_⟩
          · replace h := h.1 hc
            exact mf_X1_relax_c38_b113 hq ih fσ7 h
          · replace h := h.2 hc
            exact mf_X1_relax_c38_b113 hq ih fσ7 h
set_option maxHeartbeats 1000000 in
theorem mf_X1_relax_c38 {Q Q' : Int → St → Prop} {σ0 : St} (hq : ∀ (r : Int) (σ1 : St), Q r σ1 → Fr S_X1_relax_c38 σ0 σ1 → Q' r σ1) {x2 x3 x4 : Int} {σ : St} (f0 : Fr S_X1_relax_c38 σ0 σ) (h : wp_X1_relax_c38 x2 x3 x4 σ Q) : wp_X1_relax_c38 x2 x3 x4 σ Q' := by
  unfold wp_X1_relax_c38 at h ⊢
  exact mf_X1_relax_c38_l6 hq bigN _ _ _ _ _ _ f0 h
set_option maxHeartbeats 1000000 in
theorem mf_X1_fill_c38_b90 {Q Q' : Int → St → Prop} {σ0 : St} (hq : ∀ (r : Int) (σ1 : St), Q r σ1 → Fr S_X1_fill_c38 σ0 σ1 → Q' r σ1) {K3 K3' : Int → Int → Int → St → Prop} (hK3 : ∀ (x2 : Int) (x3 : Int) (x4 : Int) (σ : St), Fr S_X1_fill_c38 σ0 σ → K3 x2 x3 x4 σ → K3' x2 x3 x4 σ) {x2 x3 x4 : Int} {σ : St} (f0 : Fr S_X1_fill_c38 σ0 σ) (h : wp_X1_fill_c38_b90 Q K3 x2 x3 x4 σ) : wp_X1_fill_c38_b90 Q' K3' x2 x3 x4 σ := by
  unfold wp_X1_fill_c38_b90 at h ⊢
  intro v9 ev9; replace h := h v9 ev9
  exact hK3 _ _ _ _ f0 h
set_option maxHeartbeats 1000000 in
theorem mf_X1_fill_c38_l61 {Q Q' : Int → St → Prop} {σ0 : St} (hq : ∀ (r : Int) (σ1 : St), Q r σ1 → Fr S_X1_fill_c38 σ0 σ1 → Q' r σ1) {K3 K3' : Int → Int → Int → St → Prop} (hK3 : ∀ (x2 : Int) (x3 : Int) (x4 : Int) (σ : St), Fr S_X1_fill_c38 σ0 σ → K3 x2 x3 x4 σ → K3' x2 x3 x4 σ) : ∀ (n : Nat) (x2 : Int) (x3 : Int) (x4 : Int) (x5 : Int) (x6 : Int) (x7 : Int) (σ : St), Fr S_X1_fill_c38 σ0 σ → wp_X1_fill_c38_l61 Q K3 n x2 x3 x4 x5 x6 x7 σ → wp_X1_fill_c38_l61 Q' K3' n x2 x3 x4 x5 x6 x7 σ := by
  intro n
  induction n with
  | zero => intro _ _ _ _ _ _ _ _ h; exact h.elim
  | succ n ih =>
    intro x2 x3 x4 x5 x6 x7 σ f0 h
    unfold wp_X1_fill_c38_l61 at h ⊢
    refine ⟨fun hc => ?_, fun hc => ?_⟩
    · replace h := h.1 hc
      exact mf_X1_fill_c38_b90 hq hK3 f0 h
    · replace h := h.2 hc
      refine ⟨fun hc => ?_, fun hc => ?_⟩
      · replace h := h.1 hc
        exact mf_X1_fill_c38_b90 hq hK3 f0 h
      · replace h := h.2 hc
        refine mf_X1_relax_c38 (fun r6 σ7 h gσ7 => ?_) Fr.rf h
        have fσ7 : Fr S_X1_fill_c38 σ0 σ7 := f0.tr gσ7 (mkS_sub (by decide) (by decide))
        intro v8 ev8; replace h := h v8 ev8
        exact ih _ _ _ _ _ _ _ fσ7 h
set_option maxHeartbeats 1000000 in
theorem mf_X1_fill_c38_l26 {Q Q' : Int → St → Prop} {σ0 : St} (hq : ∀ (r : Int) (σ1 : St), Q r σ1 → Fr S_X1_fill_c38 σ0 σ1 → Q' r σ1) {K3 K3' : Int → Int → Int → St → Prop} (hK3 : ∀ (x2 : Int) (x3 : Int) (x4 : Int) (σ : St), Fr S_X1_fill_c38 σ0 σ → K3 x2 x3 x4 σ → K3' x2 x3 x4 σ) : ∀ (n : Nat) (x2 : Int) (x3 : Int) (x4 : Int) (x5 : Int) (x6 : Int) (σ : St), Fr S_X1_fill_c38 σ0 σ → wp_X1_fill_c38_l26 Q K3 n x2 x3 x4 x5 x6 σ → wp_X1_fill_c38_l26 Q' K3' n x2 x3 x4 x5 x6 σ := by
  intro n
  induction n with
  | zero => intro _ _ _ _ _ _ _ h; exact h.elim
  | succ n ih =>
    intro x2 x3 x4 x5 x6 σ f0 h
    unfold wp_X1_fill_c38_l26 at h ⊢
    refine ⟨fun hc => ?_, fun hc => ?_⟩
    · replace h := h.1 hc
      exact mf_X1_fill_c38_l61 hq hK3 bigN _ _ _ _ _ _ _ f0 h
    · replace h := h.2 hc
      refine mf_X1_leastOfCases_c38 (fun r2 σ3 h gσ3 => ?_) Fr.rf h
      have fσ3 : Fr S_X1_fill_c38 σ0 σ3 := f0.tr gσ3 (mkS_sub (by decide) (by decide))
      refine ⟨h.1, fun σ4 eσ4 => ?_⟩; replace h := h.2 σ4 eσ4; have fσ4 : Fr S_X1_fill_c38 σ0 σ4 := by rw [eσ4]; exact fσ3.up rfl
      intro v5 ev5; replace h := h v5 ev5
      exact ih _ _ _ _ _ _ fσ4 h
set_option maxHeartbeats 1000000 in
theorem mf_X1_fill_c38_l3 {Q Q' : Int → St → Prop} {σ0 : St} (hq : ∀ (r : Int) (σ1 : St), Q r σ1 → Fr S_X1_fill_c38 σ0 σ1 → Q' r σ1) : ∀ (n : Nat) (x2 : Int) (x3 : Int) (x4 : Int) (σ : St), Fr S_X1_fill_c38 σ0 σ → wp_X1_fill_c38_l3 Q n x2 x3 x4 σ → wp_X1_fill_c38_l3 Q' n x2 x3 x4 σ := by
  intro n
  induction n with
  | zero => intro _ _ _ _ _ h; exact h.elim
  | succ n ih =>
    intro x2 x3 x4 σ f0 h
    unfold wp_X1_fill_c38_l3 at h ⊢
    refine ⟨fun hc => ?_, fun hc => ?_⟩
    · replace h := h.1 hc
      exact hq _ _ h f0
    · replace h := h.2 hc
      intro v1 ev1; replace h := h v1 ev1
      exact mf_X1_fill_c38_l26 hq ih bigN _ _ _ _ _ _ f0 h
set_option maxHeartbeats 1000000 in
theorem mf_X1_fill_c38 {Q Q' : Int → St → Prop} {σ0 : St} (hq : ∀ (r : Int) (σ1 : St), Q r σ1 → Fr S_X1_fill_c38 σ0 σ1 → Q' r σ1) {x2 x3 : Int} {σ : St} (f0 : Fr S_X1_fill_c38 σ0 σ) (h : wp_X1_fill_c38 x2 x3 σ Q) : wp_X1_fill_c38 x2 x3 σ Q' := by
  unfold wp_X1_fill_c38 at h ⊢
  exact mf_X1_fill_c38_l3 hq bigN _ _ _ _ f0 h
set_option maxHeartbeats 1000000 in
theorem mf_X1_mildestOf_b29 {Q Q' : Int → St → Prop} {σ0 : St} (hq : ∀ (r : Int) (σ1 : St), Q r σ1 → Fr S_X1_mildestOf σ0 σ1 → Q' r σ1) {x1 : Int} {σ : St} (f0 : Fr S_X1_mildestOf σ0 σ) (h : wp_X1_mildestOf_b29 Q x1 σ) : wp_X1_mildestOf_b29 Q' x1 σ := by
  unfold wp_X1_mildestOf_b29 at h ⊢
  refine ⟨h.1, ?_⟩; replace h := h.2
  exact hq _ _ h f0
set_option maxHeartbeats 1000000 in
theorem mf_X1_mildestOf {Q Q' : Int → St → Prop} {σ0 : St} (hq : ∀ (r : Int) (σ1 : St), Q r σ1 → Fr S_X1_mildestOf σ0 σ1 → Q' r σ1) {x1 : Int} {σ : St} (f0 : Fr S_X1_mildestOf σ0 σ) (h : wp_X1_mildestOf x1 σ Q) : wp_X1_mildestOf x1 σ Q' := by
  unfold wp_X1_mildestOf at h ⊢
  refine mf_X0_build (fun r1 σ2 h gσ2 => ?_) Fr.rf h
  have fσ2 : Fr S_X1_mildestOf σ0 σ2 := f0.tr gσ2 (mkS_sub (by decide) (by decide))
  refine ⟨fun hc => ?_, fun hc => ?_⟩
  · replace h := h.1 hc
    exact mf_X1_mildestOf_b29 hq fσ2 h
  · replace h := h.2 hc
    intro σ3 eσ3; replace h := h σ3 eσ3; have fσ3 : Fr S_X1_mildestOf σ0 σ3 := by rw [eσ3]; exact fσ2.up rfl
    refine mf_X1_fill_c38 (fun r4 σ5 h gσ5 => ?_) Fr.rf h
    have fσ5 : Fr S_X1_mildestOf σ0 σ5 := fσ3.tr gσ5 (mkS_sub (by decide) (by decide))
    exact mf_X1_mildestOf_b29 hq fσ5 h
set_option maxHeartbeats 1000000 in
theorem mf_X11_dearest {Q Q' : Int → St → Prop} {σ0 : St} (hq : ∀ (r : Int) (σ1 : St), Q r σ1 → Fr S_X11_dearest σ0 σ1 → Q' r σ1) {x1 x2 x3 : Int} {σ : St} (f0 : Fr S_X11_dearest σ0 σ) (h : wp_X11_dearest x1 x2 x3 σ Q) : wp_X11_dearest x1 x2 x3 σ Q' := by
  unfold wp_X11_dearest at h ⊢
  refine mf_X11_itemOf (fun r1 σ2 h gσ2 => ?_) Fr.rf h
  have fσ2 : Fr S_X11_dearest σ0 σ2 := f0.tr gσ2 (mkS_sub (by decide) (by decide))
  refine ⟨fun hc => ?_, fun hc => ?_⟩
  · replace h := h.1 hc
    refine mf_X1_mildestOf (fun r3 σ4 h gσ4 => ?_) Fr.rf h
    have fσ4 : Fr S_X11_dearest σ0 σ4 := fσ2.tr gσ4 (mkS_sub (by decide) (by decide))
    exact hq _ _ h fσ4
  · replace h := h.2 hc
    exact hq _ _ h fσ2
set_option maxHeartbeats 1000000 in
theorem mf_X2_gatherCases_c44_b161 {Q Q' : Int → St → Prop} {σ0 : St} (hq : ∀ (r : Int) (σ1 : St), Q r σ1 → Fr S_X2_gatherCases_c44 σ0 σ1 → Q' r σ1) {K23 K23' : Int → Int → Int → Int → St → Prop} (hK23 : ∀ (x2 : Int) (x3 : Int) (x4 : Int) (x6 : Int) (σ : St), Fr S_X2_gatherCases_c44 σ0 σ → K23 x2 x3 x4 x6 σ → K23' x2 x3 x4 x6 σ) {x2 x3 x4 x6 : Int} {σ : St} (f0 : Fr S_X2_gatherCases_c44 σ0 σ) (h : wp_X2_gatherCases_c44_b161 Q K23 x2 x3 x4 x6 σ) : wp_X2_gatherCases_c44_b161 Q' K23' x2 x3 x4 x6 σ := by
  unfold wp_X2_gatherCases_c44_b161 at h ⊢
  intro v10 ev10; replace h := h v10 ev10
  exact hK23 _ _ _ _ _ f0 h
set_option maxHeartbeats 1000000 in
theorem mf_X2_gatherCases_c44_b159 {Q Q' : Int → St → Prop} {σ0 : St} (hq : ∀ (r : Int) (σ1 : St), Q r σ1 → Fr S_X2_gatherCases_c44 σ0 σ1 → Q' r σ1) {K23 K23' : Int → Int → Int → Int → St → Prop} (hK23 : ∀ (x2 : Int) (x3 : Int) (x4 : Int) (x6 : Int) (σ : St), Fr S_X2_gatherCases_c44 σ0 σ → K23 x2 x3 x4 x6 σ → K23' x2 x3 x4 x6 σ) {x2 x3 x6 s0 : Int} {σ : St} (f0 : Fr S_X2_gatherCases_c44 σ0 σ) (h : wp_X2_gatherCases_c44_b159 Q K23 x2 x3 x6 s0 σ) : wp_X2_gatherCases_c44_b159 Q' K23' x2 x3 x6 s0 σ := by
  unfold wp_X2_gatherCases_c44_b159 at h ⊢
  exact mf_X2_gatherCases_c44_b161 hq hK23 f0 h
set_option maxHeartbeats 1000000 in
theorem mf_X2_gatherCases_c44_b139 {Q Q' : Int → St → Prop} {σ0 : St} (hq : ∀ (r : Int) (σ1 : St), Q r σ1 → Fr S_X2_gatherCases_c44 σ0 σ1 → Q' r σ1) {K23 K23' : Int → Int → Int → Int → St → Prop} (hK23 : ∀ (x2 : Int) (x3 : Int) (x4 : Int) (x6 : Int) (σ : St), Fr S_X2_gatherCases_c44 σ0 σ → K23 x2 x3 x4 x6 σ → K23' x2 x3 x4 x6 σ) {x2 x3 x4 x6 s0 s1 : Int} {σ : St} (f0 : Fr S_X2_gatherCases_c44 σ0 σ) (h : wp_X2_gatherCases_c44_b139 Q K23 x2 x3 x4 x6 s0 s1 σ) : wp_X2_gatherCases_c44_b139 Q' K23' x2 x3 x4 x6 s0 s1 σ := by
  unfold wp_X2_gatherCases_c44_b139 at h ⊢
  intro v12 ev12; replace h := h v12 ev12
  refine ⟨fun hc => ?_, fun hc => ?_⟩
  · replace h := h.1 hc
    exact mf_X2_gatherCases_c44_b159 hq hK23 f0 h
  · replace h := h.2 hc
    exact mf_X2_gatherCases_c44_b159 hq hK23 f0 h
set_option maxHeartbeats 1000000 in
theorem mf_X2_gatherCases_c44_b105 {Q Q' : Int → St → Prop} {σ0 : St} (hq : ∀ (r : Int) (σ1 : St), Q r σ1 → Fr S_X2_gatherCases_c44 σ0 σ1 → Q' r σ1) {K23 K23' : Int → Int → Int → Int → St → Prop} (hK23 : ∀ (x2 : Int) (x3 : Int) (x4 : Int) (x6 : Int) (σ : St), Fr S_X2_gatherCases_c44 σ0 σ → K23 x2 x3 x4 x6 σ → K23' x2 x3 x4 x6 σ) {x2 x3 x4 x6 s0 s1 : Int} {σ : St} (f0 : Fr S_X2_gatherCases_c44 σ0 σ) (h : wp_X2_gatherCases_c44_b105 Q K23 x2 x3 x4 x6 s0 s1 σ) : wp_X2_gatherCases_c44_b105 Q' K23' x2 x3 x4 x6 s0 s1 σ := by
  unfold wp_X2_gatherCases_c44_b105 at h ⊢
  intro v11 ev11; replace h := h v11 ev11
  refine ⟨h.1, ?_⟩; replace h := h.2
  refine ⟨fun hc => ?_, fun hc => ?_⟩
  · replace h := h.1 hc
    refine ⟨h.1, ?_⟩; replace h := h.2
    refine ⟨h.1, ?_⟩; replace h := h.2
    exact mf_X2_gatherCases_c44_b139 hq hK23 f0 h
  · replace h := h.2 hc
    exact mf_X2_gatherCases_c44_b139 hq hK23 f0 h
set_option maxHeartbeats 1000000 in
theorem mf_X2_gatherCases_c44_l23 {Q Q' : Int → St → Prop} {σ0 : St} (hq : ∀ (r : Int) (σ1 : St), Q r σ1 → Fr S_X2_gatherCases_c44 σ0 σ1 → Q' r σ1) : ∀ (n : Nat) (x2 : Int) (x3 : Int) (x4 : Int) (x6 : Int) (σ : St), Fr S_X2_gatherCases_c44 σ0 σ → wp_X2_gatherCases_c44_l23 Q n x2 x3 x4 x6 σ → wp_X2_gatherCases_c44_l23 Q' n x2 x3 x4 x6 σ := by
  intro n
  induction n with
  | zero => intro _ _ _ _ _ _ h; exact h.elim
  | succ n ih =>
    intro x2 x3 x4 x6 σ f0 h
    unfold wp_X2_gatherCases_c44_l23 at h ⊢
    refine mf_X0_caseEnd (fun r3 σ4 h gσ4 => ?_) Fr.rf h
    have fσ4 : Fr S_X2_gatherCases_c44 σ0 σ4 := f0.tr gσ4 (mkS_sub (by decide) (by decide))
    refine ⟨fun hc => ?_, fun hc => ?_⟩
    · replace h := h.1 hc
      exact hq _ _ h fσ4
    · replace h := h.2 hc
      refine mf_X0_goesOn (fun r5 σ6 h gσ6 => ?_) Fr.rf h
      have fσ6 : Fr S_X2_gatherCases_c44 σ0 σ6 := fσ4.tr gσ6 (mkS_sub (by decide) (by decide))
      refine ⟨fun hc => ?_, fun hc => ?_⟩
      · replace h := h.1 hc
        exact mf_X2_gatherCases_c44_b161 hq ih fσ6 h
      · replace h := h.2 hc
        refine mf_X1_isFull (fun r7 σ8 h gσ8 => ?_) Fr.rf h
        have fσ8 : Fr S_X2_gatherCases_c44 σ0 σ8 := fσ6.tr gσ8 (mkS_sub (by decide) (by decide))
        refine ⟨fun hc => ?_, fun hc => ?_⟩
        · replace h := h.1 hc
          exact mf_X2_gatherCases_c44_b161 hq ih fσ8 h
        · replace h := h.2 hc
          refine ⟨h.1, ?_⟩; replace h := h.2
          intro v9 ev9; replace h := h v9 ev9
          refine ⟨h.1, ?_⟩; replace h := h.2
          refine ⟨fun hc => ?_, fun hc => ?_⟩
          · replace h := h.1 hc
            refine ⟨h.1, ?_⟩; replace h := h.2
            refine ⟨h.1, ?_⟩; replace h := h.2
            exact mf_X2_gatherCases_c44_b105 hq ih fσ8 h
          · replace h := h.2 hc
            exact mf_X2_gatherCases_c44_b105 hq ih fσ8 h
set_option maxHeartbeats 1000000 in
theorem mf_X2_gatherCases_c44_b11 {Q Q' : Int → St → Prop} {σ0 : St} (hq : ∀ (r : Int) (σ1 : St), Q r σ1 → Fr S_X2_gatherCases_c44 σ0 σ1 → Q' r σ1) {x2 x3 s0 : Int} {σ : St} (f0 : Fr S_X2_gatherCases_c44 σ0 σ) (h : wp_X2_gatherCases_c44_b11 Q x2 x3 s0 σ) : wp_X2_gatherCases_c44_b11 Q' x2 x3 s0 σ := by
  unfold wp_X2_gatherCases_c44_b11 at h ⊢
  refine mf_X0_caseStart (fun r1 σ2 h gσ2 => ?_) Fr.rf h
  have fσ2 : Fr S_X2_gatherCases_c44 σ0 σ2 := f0.tr gσ2 (mkS_sub (by decide) (by decide))
  exact mf_X2_gatherCases_c44_l23 hq bigN _ _ _ _ _ fσ2 h
set_option maxHeartbeats 1000000 in
theorem mf_X2_gatherCases_c44 {Q Q' : Int → St → Prop} {σ0 : St} (hq : ∀ (r : Int) (σ1 : St), Q r σ1 → Fr S_X2_gatherCases_c44 σ0 σ1 → Q' r σ1) {x2 x3 : Int} {σ : St} (f0 : Fr S_X2_gatherCases_c44 σ0 σ) (h : wp_X2_gatherCases_c44 x2 x3 σ Q) : wp_X2_gatherCases_c44 x2 x3 σ Q' := by
  unfold wp_X2_gatherCases_c44 at h ⊢
  refine ⟨fun hc => ?_, fun hc => ?_⟩
  · replace h := h.1 hc
    exact mf_X2_gatherCases_c44_b11 hq f0 h
  · replace h := h.2 hc
    exact mf_X2_gatherCases_c44_b11 hq f0 h
set_option maxHeartbeats 1000000 in
theorem mf_X2_gatherUnaries_c44_b130 {Q Q' : Int → St → Prop} {σ0 : St} (hq : ∀ (r : Int) (σ1 : St), Q r σ1 → Fr S_X2_gatherUnaries_c44 σ0 σ1 → Q' r σ1) {K6 K6' : Int → Int → Int → Int → St → Prop} (hK6 : ∀ (x2 : Int) (x3 : Int) (x4 : Int) (x5 : Int) (σ : St), Fr S_X2_gatherUnaries_c44 σ0 σ → K6 x2 x3 x4 x5 σ → K6' x2 x3 x4 x5 σ) {x2 x3 x4 x5 : Int} {σ : St} (f0 : Fr S_X2_gatherUnaries_c44 σ0 σ) (h : wp_X2_gatherUnaries_c44_b130 Q K6 x2 x3 x4 x5 σ) : wp_X2_gatherUnaries_c44_b130 Q' K6' x2 x3 x4 x5 σ := by
  unfold wp_X2_gatherUnaries_c44_b130 at h ⊢
  intro v7 ev7; replace h := h v7 ev7
  exact hK6 _ _ _ _ _ f0 h
set_option maxHeartbeats 1000000 in
theorem mf_X2_gatherUnaries_c44_b121 {Q Q' : Int → St → Prop} {σ0 : St} (hq : ∀ (r : Int) (σ1 : St), Q r σ1 → Fr S_X2_gatherUnaries_c44 σ0 σ1 → Q' r σ1) {K6 K6' : Int → Int → Int → Int → St → Prop} (hK6 : ∀ (x2 : Int) (x3 : Int) (x4 : Int) (x5 : Int) (σ : St), Fr S_X2_gatherUnaries_c44 σ0 σ → K6 x2 x3 x4 x5 σ → K6' x2 x3 x4 x5 σ) {x2 x3 x5 x7 x11 s0 s1 : Int} {σ : St} (f0 : Fr S_X2_gatherUnaries_c44 σ0 σ) (h : wp_X2_gatherUnaries_c44_b121 Q K6 x2 x3 x5 x7 x11 s0 s1 σ) : wp_X2_gatherUnaries_c44_b121 Q' K6' x2 x3 x5 x7 x11 s0 s1 σ := by
  unfold wp_X2_gatherUnaries_c44_b121 at h ⊢
  intro v8 ev8; replace h := h v8 ev8
  refine ⟨h.1, fun σ9 eσ9 => ?_⟩; replace h := h.2 σ9 eσ9; have fσ9 : Fr S_X2_gatherUnaries_c44 σ0 σ9 := by rw [eσ9]; exact f0.up rfl
  exact mf_X2_gatherUnaries_c44_b130 hq hK6 fσ9 h
set_option maxHeartbeats 1000000 in
theorem mf_X2_gatherUnaries_c44_b102 {Q Q' : Int → St → Prop} {σ0 : St} (hq : ∀ (r : Int) (σ1 : St), Q r σ1 → Fr S_X2_gatherUnaries_c44 σ0 σ1 → Q' r σ1) {K6 K6' : Int → Int → Int → Int → St → Prop} (hK6 : ∀ (x2 : Int) (x3 : Int) (x4 : Int) (x5 : Int) (σ : St), Fr S_X2_gatherUnaries_c44 σ0 σ → K6 x2 x3 x4 x5 σ → K6' x2 x3 x4 x5 σ) {x2 x3 x4 x5 x7 s0 : Int} {σ : St} (f0 : Fr S_X2_gatherUnaries_c44 σ0 σ) (h : wp_X2_gatherUnaries_c44_b102 Q K6 x2 x3 x4 x5 x7 s0 σ) : wp_X2_gatherUnaries_c44_b102 Q' K6' x2 x3 x4 x5 x7 s0 σ := by
  unfold wp_X2_gatherUnaries_c44_b102 at h ⊢
  refine ⟨h.1, ?_⟩; replace h := h.2
  refine ⟨fun hc => ?_, fun hc => ?_⟩
  · replace h := h.1 hc
    exact mf_X2_gatherUnaries_c44_b121 hq hK6 f0 h
  · replace h := h.2 hc
    exact mf_X2_gatherUnaries_c44_b121 hq hK6 f0 h
set_option maxHeartbeats 1000000 in
theorem mf_X2_gatherUnaries_c44_l6 {Q Q' : Int → St → Prop} {σ0 : St} (hq : ∀ (r : Int) (σ1 : St), Q r σ1 → Fr S_X2_gatherUnaries_c44 σ0 σ1 → Q' r σ1) : ∀ (n : Nat) (x2 : Int) (x3 : Int) (x4 : Int) (x5 : Int) (σ : St), Fr S_X2_gatherUnaries_c44 σ0 σ → wp_X2_gatherUnaries_c44_l6 Q n x2 x3 x4 x5 σ → wp_X2_gatherUnaries_c44_l6 Q' n x2 x3 x4 x5 σ := by
  intro n
  induction n with
  | zero => intro _ _ _ _ _ _ h; exact h.elim
  | succ n ih =>
    intro x2 x3 x4 x5 σ f0 h
    unfold wp_X2_gatherUnaries_c44_l6 at h ⊢
    refine ⟨fun hc => ?_, fun hc => ?_⟩
    · replace h := h.1 hc
      exact ⟨h.1, hq _ _ h.2 f0⟩
    · replace h := h.2 hc
      refine ⟨h.1, ?_⟩; replace h := h.2
      intro v1 ev1; replace h := h v1 ev1
      refine ⟨h.1, ?_⟩; replace h := h.2
      intro v2 ev2; replace h := h v2 ev2
      refine ⟨h.1, ?_⟩; replace h := h.2
      intro v3 ev3; replace h := h v3 ev3
      refine mf_X1_has (fun r4 σ5 h gσ5 => ?_) Fr.rf h
      have fσ5 : Fr S_X2_gatherUnaries_c44 σ0 σ5 := f0.tr gσ5 (mkS_sub (by decide) (by decide))
      refine ⟨fun hc => ?_, fun hc => ?_⟩
      · replace h := h.1 hc
        exact mf_X2_gatherUnaries_c44_b130 hq ih fσ5 h
      · replace h := h.2 hc
        refine ⟨h.1, ?_⟩; replace h := h.2
        intro v6 ev6; replace h := h v6 ev6
        refine ⟨fun hc => ?_, fun hc => ?_⟩
        · replace h := h.1 hc
          refine ⟨h.1, ?_⟩; replace h := h.2
          exact mf_X2_gatherUnaries_c44_b102 hq ih fσ5 h
        · replace h := h.2 hc
          refine ⟨h.1, ?_⟩; replace h := h.2
          exact mf_X2_gatherUnaries_c44_b102 hq ih fσ5 h
set_option maxHeartbeats 1000000 in
theorem mf_X2_gatherUnaries_c44 {Q Q' : Int → St → Prop} {σ0 : St} (hq : ∀ (r : Int) (σ1 : St), Q r σ1 → Fr S_X2_gatherUnaries_c44 σ0 σ1 → Q' r σ1) {x2 x3 : Int} {σ : St} (f0 : Fr S_X2_gatherUnaries_c44 σ0 σ) (h : wp_X2_gatherUnaries_c44 x2 x3 σ Q) : wp_X2_gatherUnaries_c44 x2 x3 σ Q' := by
  unfold wp_X2_gatherUnaries_c44 at h ⊢
  exact mf_X2_gatherUnaries_c44_l6 hq bigN _ _ _ _ _ f0 h
set_option maxHeartbeats 1000000 in
theorem mf_X2_gather_c44_b85 {Q Q' : Int → St → Prop} {σ0 : St} (hq : ∀ (r : Int) (σ1 : St), Q r σ1 → Fr S_X2_gather_c44 σ0 σ1 → Q' r σ1) {K2 K2' : Int → Int → St → Prop} (hK2 : ∀ (x2 : Int) (x3 : Int) (σ : St), Fr S_X2_gather_c44 σ0 σ → K2 x2 x3 σ → K2' x2 x3 σ) {x2 x3 : Int} {σ : St} (f0 : Fr S_X2_gather_c44 σ0 σ) (h : wp_X2_gather_c44_b85 Q K2 x2 x3 σ) : wp_X2_gather_c44_b85 Q' K2' x2 x3 σ := by
  unfold wp_X2_gather_c44_b85 at h ⊢
  intro v9 ev9; replace h := h v9 ev9
  exact hK2 _ _ _ f0 h
set_option maxHeartbeats 1000000 in
theorem mf_X2_gather_c44_l57 {Q Q' : Int → St → Prop} {σ0 : St} (hq : ∀ (r : Int) (σ1 : St), Q r σ1 → Fr S_X2_gather_c44 σ0 σ1 → Q' r σ1) {K2 K2' : Int → Int → St → Prop} (hK2 : ∀ (x2 : Int) (x3 : Int) (σ : St), Fr S_X2_gather_c44 σ0 σ → K2 x2 x3 σ → K2' x2 x3 σ) : ∀ (n : Nat) (x2 : Int) (x3 : Int) (x4 : Int) (x5 : Int) (x6 : Int) (σ : St), Fr S_X2_gather_c44 σ0 σ → wp_X2_gather_c44_l57 Q K2 n x2 x3 x4 x5 x6 σ → wp_X2_gather_c44_l57 Q' K2' n x2 x3 x4 x5 x6 σ := by
  intro n
  induction n with
  | zero => intro _ _ _ _ _ _ _ h; exact h.elim
  | succ n ih =>
    intro x2 x3 x4 x5 x6 σ f0 h
    unfold wp_X2_gather_c44_l57 at h ⊢
    refine ⟨fun hc => ?_, fun hc => ?_⟩
    · replace h := h.1 hc
      exact mf_X2_gather_c44_b85 hq hK2 f0 h
    · replace h := h.2 hc
      refine ⟨fun hc => ?_, fun hc => ?_⟩
      · replace h := h.1 hc
        exact mf_X2_gather_c44_b85 hq hK2 f0 h
      · replace h := h.2 hc
        refine mf_X2_gatherUnaries_c44 (fun r6 σ7 h gσ7 => ?_) Fr.rf h
        have fσ7 : Fr S_X2_gather_c44 σ0 σ7 := f0.tr gσ7 (mkS_sub (by decide) (by decide))
        intro v8 ev8; replace h := h v8 ev8
        exact ih _ _ _ _ _ _ fσ7 h
set_option maxHeartbeats 1000000 in
theorem mf_X2_gather_c44_l23 {Q Q' : Int → St → Prop} {σ0 : St} (hq : ∀ (r : Int) (σ1 : St), Q r σ1 → Fr S_X2_gather_c44 σ0 σ1 → Q' r σ1) {K2 K2' : Int → Int → St → Prop} (hK2 : ∀ (x2 : Int) (x3 : Int) (σ : St), Fr S_X2_gather_c44 σ0 σ → K2 x2 x3 σ → K2' x2 x3 σ) : ∀ (n : Nat) (x2 : Int) (x3 : Int) (x4 : Int) (x5 : Int) (σ : St), Fr S_X2_gather_c44 σ0 σ → wp_X2_gather_c44_l23 Q K2 n x2 x3 x4 x5 σ → wp_X2_gather_c44_l23 Q' K2' n x2 x3 x4 x5 σ := by
  intro n
  induction n with
  | zero => intro _ _ _ _ _ _ h; exact h.elim
  | succ n ih =>
    intro x2 x3 x4 x5 σ f0 h
    unfold wp_X2_gather_c44_l23 at h ⊢
    refine ⟨fun hc => ?_, fun hc => ?_⟩
    · replace h := h.1 hc
      exact mf_X2_gather_c44_l57 hq hK2 bigN _ _ _ _ _ _ f0 h
    · replace h := h.2 hc
      refine mf_X2_gatherCases_c44 (fun r2 σ3 h gσ3 => ?_) Fr.rf h
      have fσ3 : Fr S_X2_gather_c44 σ0 σ3 := f0.tr gσ3 (mkS_sub (by decide) (by decide))
      refine ⟨h.1, fun σ4 eσ4 => ?_⟩; replace h := h.2 σ4 eσ4; have fσ4 : Fr S_X2_gather_c44 σ0 σ4 := by rw [eσ4]; exact fσ3.up rfl
      intro v5 ev5; replace h := h v5 ev5
      exact ih _ _ _ _ _ fσ4 h
set_option maxHeartbeats 1000000 in
theorem mf_X2_gather_c44_l2 {Q Q' : Int → St → Prop} {σ0 : St} (hq : ∀ (r : Int) (σ1 : St), Q r σ1 → Fr S_X2_gather_c44 σ0 σ1 → Q' r σ1) : ∀ (n : Nat) (x2 : Int) (x3 : Int) (σ : St), Fr S_X2_gather_c44 σ0 σ → wp_X2_gather_c44_l2 Q n x2 x3 σ → wp_X2_gather_c44_l2 Q' n x2 x3 σ := by
  intro n
  induction n with
  | zero => intro _ _ _ _ h; exact h.elim
  | succ n ih =>
    intro x2 x3 σ f0 h
    unfold wp_X2_gather_c44_l2 at h ⊢
    refine ⟨fun hc => ?_, fun hc => ?_⟩
    · replace h := h.1 hc
      exact hq _ _ h f0
    · replace h := h.2 hc
      intro v1 ev1; replace h := h v1 ev1
      exact mf_X2_gather_c44_l23 hq ih bigN _ _ _ _ _ f0 h
set_option maxHeartbeats 1000000 in
theorem mf_X2_gather_c44 {Q Q' : Int → St → Prop} {σ0 : St} (hq : ∀ (r : Int) (σ1 : St), Q r σ1 → Fr S_X2_gather_c44 σ0 σ1 → Q' r σ1) {x2 : Int} {σ : St} (f0 : Fr S_X2_gather_c44 σ0 σ) (h : wp_X2_gather_c44 x2 σ Q) : wp_X2_gather_c44 x2 σ Q' := by
  unfold wp_X2_gather_c44 at h ⊢
  exact mf_X2_gather_c44_l2 hq bigN _ _ _ f0 h
set_option maxHeartbeats 1000000 in
theorem mf_X2_inEach_b28 {Q Q' : Int → St → Prop} {σ0 : St} (hq : ∀ (r : Int) (σ1 : St), Q r σ1 → Fr S_X2_inEach σ0 σ1 → Q' r σ1) {x1 : Int} {σ : St} (f0 : Fr S_X2_inEach σ0 σ) (h : wp_X2_inEach_b28 Q x1 σ) : wp_X2_inEach_b28 Q' x1 σ := by
  unfold wp_X2_inEach_b28 at h ⊢
  refine mf_X1_has (fun r6 σ7 h gσ7 => ?_) Fr.rf h
  have fσ7 : Fr S_X2_inEach σ0 σ7 := f0.tr gσ7 (mkS_sub (by decide) (by decide))
  refine ⟨fun hc => ?_, fun hc => ?_⟩
  · replace h := h.1 hc
    exact hq _ _ h fσ7
  · replace h := h.2 hc
    refine ⟨h.1, ?_⟩; replace h := h.2
    exact hq _ _ h fσ7
set_option maxHeartbeats 1000000 in
theorem mf_X2_inEach {Q Q' : Int → St → Prop} {σ0 : St} (hq : ∀ (r : Int) (σ1 : St), Q r σ1 → Fr S_X2_inEach σ0 σ1 → Q' r σ1) {x1 : Int} {σ : St} (f0 : Fr S_X2_inEach σ0 σ) (h : wp_X2_inEach x1 σ Q) : wp_X2_inEach x1 σ Q' := by
  unfold wp_X2_inEach at h ⊢
  refine mf_X1_prepare (fun r1 σ2 h gσ2 => ?_) Fr.rf h
  have fσ2 : Fr S_X2_inEach σ0 σ2 := f0.tr gσ2 (mkS_sub (by decide) (by decide))
  refine ⟨fun hc => ?_, fun hc => ?_⟩
  · replace h := h.1 hc
    exact mf_X2_inEach_b28 hq fσ2 h
  · replace h := h.2 hc
    intro σ3 eσ3; replace h := h σ3 eσ3; have fσ3 : Fr S_X2_inEach σ0 σ3 := by rw [eσ3]; exact fσ2.up rfl
    refine mf_X2_gather_c44 (fun r4 σ5 h gσ5 => ?_) Fr.rf h
    have fσ5 : Fr S_X2_inEach σ0 σ5 := fσ3.tr gσ5 (mkS_sub (by decide) (by decide))
    exact mf_X2_inEach_b28 hq fσ5 h
set_option maxHeartbeats 1000000 in
theorem mf_X2_gatherCases_c43_b161 {Q Q' : Int → St → Prop} {σ0 : St} (hq : ∀ (r : Int) (σ1 : St), Q r σ1 → Fr S_X2_gatherCases_c43 σ0 σ1 → Q' r σ1) {K23 K23' : Int → Int → Int → Int → St → Prop} (hK23 : ∀ (x2 : Int) (x3 : Int) (x4 : Int) (x6 : Int) (σ : St), Fr S_X2_gatherCases_c43 σ0 σ → K23 x2 x3 x4 x6 σ → K23' x2 x3 x4 x6 σ) {x2 x3 x4 x6 : Int} {σ : St} (f0 : Fr S_X2_gatherCases_c43 σ0 σ) (h : wp_X2_gatherCases_c43_b161 Q K23 x2 x3 x4 x6 σ) : wp_X2_gatherCases_c43_b161 Q' K23' x2 x3 x4 x6 σ := by
  unfold wp_X2_gatherCases_c43_b161 at h ⊢
  intro v10 ev10; replace h := h v10 ev10
  exact hK23 _ _ _ _ _ f0 h
set_option maxHeartbeats 1000000 in
theorem mf_X2_gatherCases_c43_b159 {Q Q' : Int → St → Prop} {σ0 : St} (hq : ∀ (r : Int) (σ1 : St), Q r σ1 → Fr S_X2_gatherCases_c43 σ0 σ1 → Q' r σ1) {K23 K23' : Int → Int → Int → Int → St → Prop} (hK23 : ∀ (x2 : Int) (x3 : Int) (x4 : Int) (x6 : Int) (σ : St), Fr S_X2_gatherCases_c43 σ0 σ → K23 x2 x3 x4 x6 σ → K23' x2 x3 x4 x6 σ) {x2 x3 x6 s0 : Int} {σ : St} (f0 : Fr S_X2_gatherCases_c43 σ0 σ) (h : wp_X2_gatherCases_c43_b159 Q K23 x2 x3 x6 s0 σ) : wp_X2_gatherCases_c43_b159 Q' K23' x2 x3 x6 s0 σ := by
  unfold wp_X2_gatherCases_c43_b159 at h ⊢
  exact mf_X2_gatherCases_c43_b161 hq hK23 f0 h
set_option maxHeartbeats 1000000 in
theorem mf_X2_gatherCases_c43_b139 {Q Q' : Int → St → Prop} {σ0 : St} (hq : ∀ (r : Int) (σ1 : St), Q r σ1 → Fr S_X2_gatherCases_c43 σ0 σ1 → Q' r σ1) {K23 K23' : Int → Int → Int → Int → St → Prop} (hK23 : ∀ (x2 : Int) (x3 : Int) (x4 : Int) (x6 : Int) (σ : St), Fr S_X2_gatherCases_c43 σ0 σ → K23 x2 x3 x4 x6 σ → K23' x2 x3 x4 x6 σ) {x2 x3 x4 x6 s0 s1 : Int} {σ : St} (f0 : Fr S_X2_gatherCases_c43 σ0 σ) (h : wp_X2_gatherCases_c43_b139 Q K23 x2 x3 x4 x6 s0 s1 σ) : wp_X2_gatherCases_c43_b139 Q' K23' x2 x3 x4 x6 s0 s1 σ := by
  unfold wp_X2_gatherCases_c43_b139 at h ⊢
  intro v12 ev12; replace h := h v12 ev12
  refine ⟨fun hc => ?_, fun hc => ?_⟩
  · replace h := h.1 hc
    exact mf_X2_gatherCases_c43_b159 hq hK23 f0 h
  · replace h := h.2 hc
    exact mf_X2_gatherCases_c43_b159 hq hK23 f0 h
set_option maxHeartbeats 1000000 in
theorem mf_X2_gatherCases_c43_b105 {Q Q' : Int → St → Prop} {σ0 : St} (hq : ∀ (r : Int) (σ1 : St), Q r σ1 → Fr S_X2_gatherCases_c43 σ0 σ1 → Q' r σ1) {K23 K23' : Int → Int → Int → Int → St → Prop} (hK23 : ∀ (x2 : Int) (x3 : Int) (x4 : Int) (x6 : Int) (σ : St), Fr S_X2_gatherCases_c43 σ0 σ → K23 x2 x3 x4 x6 σ → K23' x2 x3 x4 x6 σ) {x2 x3 x4 x6 s0 s1 : Int} {σ : St} (f0 : Fr S_X2_gatherCases_c43 σ0 σ) (h : wp_X2_gatherCases_c43_b105 Q K23 x2 x3 x4 x6 s0 s1 σ) : wp_X2_gatherCases_c43_b105 Q' K23' x2 x3 x4 x6 s0 s1 σ := by
  unfold wp_X2_gatherCases_c43_b105 at h ⊢
  intro v11 ev11; replace h := h v11 ev11
  refine ⟨h.1, ?_⟩; replace h := h.2
  refine ⟨fun hc => ?_, fun hc => ?_⟩
  · replace h := h.1 hc
    refine ⟨h.1, ?_⟩; replace h := h.2
    refine ⟨h.1, ?_⟩; replace h := h.2
    exact mf_X2_gatherCases_c43_b139 hq hK23 f0 h
  · replace h := h.2 hc
    exact mf_X2_gatherCases_c43_b139 hq hK23 f0 h
set_option maxHeartbeats 1000000 in
theorem mf_X2_gatherCases_c43_l23 {Q Q' : Int → St → Prop} {σ0 : St} (hq : ∀ (r : Int) (σ1 : St), Q r σ1 → Fr S_X2_gatherCases_c43 σ0 σ1 → Q' r σ1) : ∀ (n : Nat) (x2 : Int) (x3 : Int) (x4 : Int) (x6 : Int) (σ : St), Fr S_X2_gatherCases_c43 σ0 σ → wp_X2_gatherCases_c43_l23 Q n x2 x3 x4 x6 σ → wp_X2_gatherCases_c43_l23 Q' n x2 x3 x4 x6 σ := by
  intro n
  induction n with
  | zero => intro _ _ _ _ _ _ h; exact h.elim
  | succ n ih =>
    intro x2 x3 x4 x6 σ f0 h
    unfold wp_X2_gatherCases_c43_l23 at h ⊢
    refine mf_X0_caseEnd (fun r3 σ4 h gσ4 => ?_) Fr.rf h
    have fσ4 : Fr S_X2_gatherCases_c43 σ0 σ4 := f0.tr gσ4 (mkS_sub (by decide) (by decide))
    refine ⟨fun hc => ?_, fun hc => ?_⟩
    · replace h := h.1 hc
      exact hq _ _ h fσ4
    · replace h := h.2 hc
      refine mf_X0_goesOn (fun r5 σ6 h gσ6 => ?_) Fr.rf h
      have fσ6 : Fr S_X2_gatherCases_c43 σ0 σ6 := fσ4.tr gσ6 (mkS_sub (by decide) (by decide))
      refine ⟨fun hc => ?_, fun hc => ?_⟩
      · replace h := h.1 hc
        exact mf_X2_gatherCases_c43_b161 hq ih fσ6 h
      · replace h := h.2 hc
        refine mf_X1_isFull (fun r7 σ8 h gσ8 => ?_) Fr.rf h
        have fσ8 : Fr S_X2_gatherCases_c43 σ0 σ8 := fσ6.tr gσ8 (mkS_sub (by decide) (by decide))
        refine ⟨fun hc => ?_, fun hc => ?_⟩
        · replace h := h.1 hc
          exact mf_X2_gatherCases_c43_b161 hq ih fσ8 h
        · replace h := h.2 hc
          refine ⟨h.1, ?_⟩; replace h := h.2
          intro v9 ev9; replace h := h v9 ev9
          refine ⟨h.1, ?_⟩; replace h := h.2
          refine ⟨fun hc => ?_, fun hc => ?_⟩
          · replace h := h.1 hc
            refine ⟨h.1, ?_⟩; replace h := h.2
            refine ⟨h.1, ?_⟩; replace h := h.2
            exact mf_X2_gatherCases_c43_b105 hq ih fσ8 h
          · replace h := h.2 hc
            exact mf_X2_gatherCases_c43_b105 hq ih fσ8 h
set_option maxHeartbeats 1000000 in
theorem mf_X2_gatherCases_c43_b11 {Q Q' : Int → St → Prop} {σ0 : St} (hq : ∀ (r : Int) (σ1 : St), Q r σ1 → Fr S_X2_gatherCases_c43 σ0 σ1 → Q' r σ1) {x2 x3 s0 : Int} {σ : St} (f0 : Fr S_X2_gatherCases_c43 σ0 σ) (h : wp_X2_gatherCases_c43_b11 Q x2 x3 s0 σ) : wp_X2_gatherCases_c43_b11 Q' x2 x3 s0 σ := by
  unfold wp_X2_gatherCases_c43_b11 at h ⊢
  refine mf_X0_caseStart (fun r1 σ2 h gσ2 => ?_) Fr.rf h
  have fσ2 : Fr S_X2_gatherCases_c43 σ0 σ2 := f0.tr gσ2 (mkS_sub (by decide) (by decide))
  exact mf_X2_gatherCases_c43_l23 hq bigN _ _ _ _ _ fσ2 h
set_option maxHeartbeats 1000000 in
theorem mf_X2_gatherCases_c43 {Q Q' : Int → St → Prop} {σ0 : St} (hq : ∀ (r : Int) (σ1 : St), Q r σ1 → Fr S_X2_gatherCases_c43 σ0 σ1 → Q' r σ1) {x2 x3 : Int} {σ : St} (f0 : Fr S_X2_gatherCases_c43 σ0 σ) (h : wp_X2_gatherCases_c43 x2 x3 σ Q) : wp_X2_gatherCases_c43 x2 x3 σ Q' := by
  unfold wp_X2_gatherCases_c43 at h ⊢
  refine ⟨fun hc => ?_, fun hc => ?_⟩
  · replace h := h.1 hc
    exact mf_X2_gatherCases_c43_b11 hq f0 h
  · replace h := h.2 hc
    exact mf_X2_gatherCases_c43_b11 hq f0 h
set_option maxHeartbeats 1000000 in
theorem mf_X2_gatherUnaries_c43_b130 {Q Q' : Int → St → Prop} {σ0 : St} (hq : ∀ (r : Int) (σ1 : St), Q r σ1 → Fr S_X2_gatherUnaries_c43 σ0 σ1 → Q' r σ1) {K6 K6' : Int → Int → Int → Int → St → Prop} (hK6 : ∀ (x2 : Int) (x3 : Int) (x4 : Int) (x5 : Int) (σ : St), Fr S_X2_gatherUnaries_c43 σ0 σ → K6 x2 x3 x4 x5 σ → K6' x2 x3 x4 x5 σ) {x2 x3 x4 x5 : Int} {σ : St} (f0 : Fr S_X2_gatherUnaries_c43 σ0 σ) (h : wp_X2_gatherUnaries_c43_b130 Q K6 x2 x3 x4 x5 σ) : wp_X2_gatherUnaries_c43_b130 Q' K6' x2 x3 x4 x5 σ := by
  unfold wp_X2_gatherUnaries_c43_b130 at h ⊢
  intro v7 ev7; replace h := h v7 ev7
  exact hK6 _ _ _ _ _ f0 h
set_option maxHeartbeats 1000000 in
theorem mf_X2_gatherUnaries_c43_b121 {Q Q' : Int → St → Prop} {σ0 : St} (hq : ∀ (r : Int) (σ1 : St), Q r σ1 → Fr S_X2_gatherUnaries_c43 σ0 σ1 → Q' r σ1) {K6 K6' : Int → Int → Int → Int → St → Prop} (hK6 : ∀ (x2 : Int) (x3 : Int) (x4 : Int) (x5 : Int) (σ : St), Fr S_X2_gatherUnaries_c43 σ0 σ → K6 x2 x3 x4 x5 σ → K6' x2 x3 x4 x5 σ) {x2 x3 x5 x7 x11 s0 s1 : Int} {σ : St} (f0 : Fr S_X2_gatherUnaries_c43 σ0 σ) (h : wp_X2_gatherUnaries_c43_b121 Q K6 x2 x3 x5 x7 x11 s0 s1 σ) : wp_X2_gatherUnaries_c43_b121 Q' K6' x2 x3 x5 x7 x11 s0 s1 σ := by
  unfold wp_X2_gatherUnaries_c43_b121 at h ⊢
  intro v8 ev8; replace h := h v8 ev8
  refine ⟨h.1, fun σ9 eσ9 => ?_⟩; replace h := h.2 σ9 eσ9; have fσ9 : Fr S_X2_gatherUnaries_c43 σ0 σ9 := by rw [eσ9]; exact f0.up rfl
  exact mf_X2_gatherUnaries_c43_b130 hq hK6 fσ9 h
set_option maxHeartbeats 1000000 in
theorem mf_X2_gatherUnaries_c43_b102 {Q Q' : Int → St → Prop} {σ0 : St} (hq : ∀ (r : Int) (σ1 : St), Q r σ1 → Fr S_X2_gatherUnaries_c43 σ0 σ1 → Q' r σ1) {K6 K6' : Int → Int → Int → Int → St → Prop} (hK6 : ∀ (x2 : Int) (x3 : Int) (x4 : Int) (x5 : Int) (σ : St), Fr S_X2_gatherUnaries_c43 σ0 σ → K6 x2 x3 x4 x5 σ → K6' x2 x3 x4 x5 σ) {x2 x3 x4 x5 x7 s0 : Int} {σ : St} (f0 : Fr S_X2_gatherUnaries_c43 σ0 σ) (h : wp_X2_gatherUnaries_c43_b102 Q K6 x2 x3 x4 x5 x7 s0 σ) : wp_X2_gatherUnaries_c43_b102 Q' K6' x2 x3 x4 x5 x7 s0 σ := by
  unfold wp_X2_gatherUnaries_c43_b102 at h ⊢
  refine ⟨h.1, ?_⟩; replace h := h.2
  refine ⟨fun hc => ?_, fun hc => ?_⟩
  · replace h := h.1 hc
    exact mf_X2_gatherUnaries_c43_b121 hq hK6 f0 h
  · replace h := h.2 hc
    exact mf_X2_gatherUnaries_c43_b121 hq hK6 f0 h
set_option maxHeartbeats 1000000 in
theorem mf_X2_gatherUnaries_c43_l6 {Q Q' : Int → St → Prop} {σ0 : St} (hq : ∀ (r : Int) (σ1 : St), Q r σ1 → Fr S_X2_gatherUnaries_c43 σ0 σ1 → Q' r σ1) : ∀ (n : Nat) (x2 : Int) (x3 : Int) (x4 : Int) (x5 : Int) (σ : St), Fr S_X2_gatherUnaries_c43 σ0 σ → wp_X2_gatherUnaries_c43_l6 Q n x2 x3 x4 x5 σ → wp_X2_gatherUnaries_c43_l6 Q' n x2 x3 x4 x5 σ := by
  intro n
  induction n with
  | zero => intro _ _ _ _ _ _ h; exact h.elim
  | succ n ih =>
    intro x2 x3 x4 x5 σ f0 h
    unfold wp_X2_gatherUnaries_c43_l6 at h ⊢
    refine ⟨fun hc => ?_, fun hc => ?_⟩
    · replace h := h.1 hc
      exact ⟨h.1, hq _ _ h.2 f0⟩
    · replace h := h.2 hc
      refine ⟨h.1, ?_⟩; replace h := h.2
      intro v1 ev1; replace h := h v1 ev1
      refine ⟨h.1, ?_⟩; replace h := h.2
      intro v2 ev2; replace h := h v2 ev2
      refine ⟨h.1, ?_⟩; replace h := h.2
      intro v3 ev3; replace h := h v3 ev3
      refine mf_X1_has (fun r4 σ5 h gσ5 => ?_) Fr.rf h
      have fσ5 : Fr S_X2_gatherUnaries_c43 σ0 σ5 := f0.tr gσ5 (mkS_sub (by decide) (by decide))
      refine ⟨fun hc => ?_, fun hc => ?_⟩
      · replace h := h.1 hc
        exact mf_X2_gatherUnaries_c43_b130 hq ih fσ5 h
      · replace h := h.2 hc
        refine ⟨h.1, ?_⟩; replace h := h.2
        intro v6 ev6; replace h := h v6 ev6
        refine ⟨fun hc => ?_, fun hc => ?_⟩
        · replace h := h.1 hc
          refine ⟨h.1, ?_⟩; replace h := h.2
          exact mf_X2_gatherUnaries_c43_b102 hq ih fσ5 h
        · replace h := h.2 hc
          refine ⟨h.1, ?_⟩; replace h := h.2
          exact mf_X2_gatherUnaries_c43_b102 hq ih fσ5 h
set_option maxHeartbeats 1000000 in
theorem mf_X2_gatherUnaries_c43 {Q Q' : Int → St → Prop} {σ0 : St} (hq : ∀ (r : Int) (σ1 : St), Q r σ1 → Fr S_X2_gatherUnaries_c43 σ0 σ1 → Q' r σ1) {x2 x3 : Int} {σ : St} (f0 : Fr S_X2_gatherUnaries_c43 σ0 σ) (h : wp_X2_gatherUnaries_c43 x2 x3 σ Q) : wp_X2_gatherUnaries_c43 x2 x3 σ Q' := by
  unfold wp_X2_gatherUnaries_c43 at h ⊢
  exact mf_X2_gatherUnaries_c43_l6 hq bigN _ _ _ _ _ f0 h
set_option maxHeartbeats 1000000 in
theorem mf_X2_gather_c43_b85 {Q Q' : Int → St → Prop} {σ0 : St} (hq : ∀ (r : Int) (σ1 : St), Q r σ1 → Fr S_X2_gather_c43 σ0 σ1 → Q' r σ1) {K2 K2' : Int → Int → St → Prop} (hK2 : ∀ (x2 : Int) (x3 : Int) (σ : St), Fr S_X2_gather_c43 σ0 σ → K2 x2 x3 σ → K2' x2 x3 σ) {x2 x3 : Int} {σ : St} (f0 : Fr S_X2_gather_c43 σ0 σ) (h : wp_X2_gather_c43_b85 Q K2 x2 x3 σ) : wp_X2_gather_c43_b85 Q' K2' x2 x3 σ := by
  unfold wp_X2_gather_c43_b85 at h ⊢
  intro v9 ev9; replace h := h v9 ev9
  exact hK2 _ _ _ f0 h
set_option maxHeartbeats 1000000 in
theorem mf_X2_gather_c43_l57 {Q Q' : Int → St → Prop} {σ0 : St} (hq : ∀ (r : Int) (σ1 : St), Q r σ1 → Fr S_X2_gather_c43 σ0 σ1 → Q' r σ1) {K2 K2' : Int → Int → St → Prop} (hK2 : ∀ (x2 : Int) (x3 : Int) (σ : St), Fr S_X2_gather_c43 σ0 σ → K2 x2 x3 σ → K2' x2 x3 σ) : ∀ (n : Nat) (x2 : Int) (x3 : Int) (x4 : Int) (x5 : Int) (x6 : Int) (σ : St), Fr S_X2_gather_c43 σ0 σ → wp_X2_gather_c43_l57 Q K2 n x2 x3 x4 x5 x6 σ → wp_X2_gather_c43_l57 Q' K2' n x2 x3 x4 x5 x6 σ := by
  intro n
  induction n with
  | zero => intro _ _ _ _ _ _ _ h; exact h.elim
  | succ n ih =>
    intro x2 x3 x4 x5 x6 σ f0 h
    unfold wp_X2_gather_c43_l57 at h ⊢
    refine ⟨fun hc => ?_, fun hc => ?_⟩
    · replace h := h.1 hc
      exact mf_X2_gather_c43_b85 hq hK2 f0 h
    · replace h := h.2 hc
      refine ⟨fun hc => ?_, fun hc => ?_⟩
      · replace h := h.1 hc
        exact mf_X2_gather_c43_b85 hq hK2 f0 h
      · replace h := h.2 hc
        refine mf_X2_gatherUnaries_c43 (fun r6 σ7 h gσ7 => ?_) Fr.rf h
        have fσ7 : Fr S_X2_gather_c43 σ0 σ7 := f0.tr gσ7 (mkS_sub (by decide) (by decide))
        intro v8 ev8; replace h := h v8 ev8
        exact ih _ _ _ _ _ _ fσ7 h
set_option maxHeartbeats 1000000 in
theorem mf_X2_gather_c43_l23 {Q Q' : Int → St → Prop} {σ0 : St} (hq : ∀ (r : Int) (σ1 : St), Q r σ1 → Fr S_X2_gather_c43 σ0 σ1 → Q' r σ1) {K2 K2' : Int → Int → St → Prop} (hK2 : ∀ (x2 : Int) (x3 : Int) (σ : St), Fr S_X2_gather_c43 σ0 σ → K2 x2 x3 σ → K2' x2 x3 σ) : ∀ (n : Nat) (x2 : Int) (x3 : Int) (x4 : Int) (x5 : Int) (σ : St), Fr S_X2_gather_c43 σ0 σ → wp_X2_gather_c43_l23 Q K2 n x2 x3 x4 x5 σ → wp_X2_gather_c43_l23 Q' K2' n x2 x3 x4 x5 σ := by
  intro n
  induction n with
  | zero => intro _ _ _ _ _ _ h; exact h.elim
  | succ n ih =>
    intro x2 x3 x4 x5 σ f0 h
    unfold wp_X2_gather_c43_l23 at h ⊢
    refine ⟨fun hc => ?_, fun hc => ?_⟩
    · replace h := h.1 hc
      exact mf_X2_gather_c43_l57 hq hK2 bigN _ _ _ _ _ _ f0 h
    · replace h := h.2 hc
      refine mf_X2_gatherCases_c43 (fun r2 σ3 h gσ3 => ?_) Fr.rf h
      have fσ3 : Fr S_X2_gather_c43 σ0 σ3 := f0.tr gσ3 (mkS_sub (by decide) (by decide))
      refine ⟨h.1, fun σ4 eσ4 => ?_⟩; replace h := h.2 σ4 eσ4; have fσ4 : Fr S_X2_gather_c43 σ0 σ4 := by rw [eσ4]; exact fσ3.up rfl
      intro v5 ev5; replace h := h v5 ev5
      exact ih _ _ _ _ _ fσ4 h
set_option maxHeartbeats 1000000 in
theorem mf_X2_gather_c43_l2 {Q Q' : Int → St → Prop} {σ0 : St} (hq : ∀ (r : Int) (σ1 : St), Q r σ1 → Fr S_X2_gather_c43 σ0 σ1 → Q' r σ1) : ∀ (n : Nat) (x2 : Int) (x3 : Int) (σ : St), Fr S_X2_gather_c43 σ0 σ → wp_X2_gather_c43_l2 Q n x2 x3 σ → wp_X2_gather_c43_l2 Q' n x2 x3 σ := by
  intro n
  induction n with
  | zero => intro _ _ _ _ h; exact h.elim
  | succ n ih =>
    intro x2 x3 σ f0 h
    unfold wp_X2_gather_c43_l2 at h ⊢
    refine ⟨fun hc => ?_, fun hc => ?_⟩
    · replace h := h.1 hc
      exact hq _ _ h f0
    · replace h := h.2 hc
      intro v1 ev1; replace h := h v1 ev1
      exact mf_X2_gather_c43_l23 hq ih bigN _ _ _ _ _ f0 h
set_option maxHeartbeats 1000000 in
theorem mf_X2_gather_c43 {Q Q' : Int → St → Prop} {σ0 : St} (hq : ∀ (r : Int) (σ1 : St), Q r σ1 → Fr S_X2_gather_c43 σ0 σ1 → Q' r σ1) {x2 : Int} {σ : St} (f0 : Fr S_X2_gather_c43 σ0 σ) (h : wp_X2_gather_c43 x2 σ Q) : wp_X2_gather_c43 x2 σ Q' := by
  unfold wp_X2_gather_c43 at h ⊢
  exact mf_X2_gather_c43_l2 hq bigN _ _ _ f0 h
set_option maxHeartbeats 1000000 in
theorem mf_X2_inSome_b28 {Q Q' : Int → St → Prop} {σ0 : St} (hq : ∀ (r : Int) (σ1 : St), Q r σ1 → Fr S_X2_inSome σ0 σ1 → Q' r σ1) {x1 : Int} {σ : St} (f0 : Fr S_X2_inSome σ0 σ) (h : wp_X2_inSome_b28 Q x1 σ) : wp_X2_inSome_b28 Q' x1 σ := by
  unfold wp_X2_inSome_b28 at h ⊢
  refine ⟨h.1, ?_⟩; replace h := h.2
  exact hq _ _ h f0
set_option maxHeartbeats 1000000 in
theorem mf_X2_inSome {Q Q' : Int → St → Prop} {σ0 : St} (hq : ∀ (r : Int) (σ1 : St), Q r σ1 → Fr S_X2_inSome σ0 σ1 → Q' r σ1) {x1 : Int} {σ : St} (f0 : Fr S_X2_inSome σ0 σ) (h : wp_X2_inSome x1 σ Q) : wp_X2_inSome x1 σ Q' := by
  unfold wp_X2_inSome at h ⊢
  refine mf_X1_prepare (fun r1 σ2 h gσ2 => ?_) Fr.rf h
  have fσ2 : Fr S_X2_inSome σ0 σ2 := f0.tr gσ2 (mkS_sub (by decide) (by decide))
  refine ⟨fun hc => ?_, fun hc => ?_⟩
  · replace h := h.1 hc
    exact mf_X2_inSome_b28 hq fσ2 h
  · replace h := h.2 hc
    intro σ3 eσ3; replace h := h σ3 eσ3; have fσ3 : Fr S_X2_inSome σ0 σ3 := by rw [eσ3]; exact fσ2.up rfl
    refine mf_X2_gather_c43 (fun r4 σ5 h gσ5 => ?_) Fr.rf h
    have fσ5 : Fr S_X2_inSome σ0 σ5 := fσ3.tr gσ5 (mkS_sub (by decide) (by decide))
    exact mf_X2_inSome_b28 hq fσ5 h
set_option maxHeartbeats 1000000 in
theorem mf_X11_used {Q Q' : Int → St → Prop} {σ0 : St} (hq : ∀ (r : Int) (σ1 : St), Q r σ1 → Fr S_X11_used σ0 σ1 → Q' r σ1) {x1 x2 x3 x4 : Int} {σ : St} (f0 : Fr S_X11_used σ0 σ) (h : wp_X11_used x1 x2 x3 x4 σ Q) : wp_X11_used x1 x2 x3 x4 σ Q' := by
  unfold wp_X11_used at h ⊢
  refine mf_X11_itemOf (fun r1 σ2 h gσ2 => ?_) Fr.rf h
  have fσ2 : Fr S_X11_used σ0 σ2 := f0.tr gσ2 (mkS_sub (by decide) (by decide))
  refine ⟨fun hc => ?_, fun hc => ?_⟩
  · replace h := h.1 hc
    exact hq _ _ h fσ2
  · replace h := h.2 hc
    refine ⟨fun hc => ?_, fun hc => ?_⟩
    · replace h := h.1 hc
      exact hq _ _ h fσ2
    · replace h := h.2 hc
      refine ⟨fun hc => ?_, fun hc => ?_⟩
      · replace h := h.1 hc
        refine ⟨fun hc => ?_, fun hc => ?_⟩
        · replace h := h.1 hc
          refine mf_X2_inEach (fun r3 σ4 h gσ4 => ?_) Fr.rf h
          have fσ4 : Fr S_X11_used σ0 σ4 := fσ2.tr gσ4 (mkS_sub (by decide) (by decide))
          exact hq _ _ h fσ4
        · replace h := h.2 hc
          refine mf_X2_inSome (fun r5 σ6 h gσ6 => ?_) Fr.rf h
          have fσ6 : Fr S_X11_used σ0 σ6 := fσ2.tr gσ6 (mkS_sub (by decide) (by decide))
          exact hq _ _ h fσ6
      · replace h := h.2 hc
        exact hq _ _ h fσ2
set_option maxHeartbeats 1000000 in
theorem mf_J7_fill_53178_C_c48_l5 {Q Q' : Int → St → Prop} {σ0 : St} (hq : ∀ (r : Int) (σ1 : St), Q r σ1 → Fr S_J7_fill_53178_C_c48 σ0 σ1 → Q' r σ1) : ∀ (n : Nat) (x1 : Int) (x2 : Int) (x3 : Int) (σ : St), Fr S_J7_fill_53178_C_c48 σ0 σ → wp_J7_fill_53178_C_c48_l5 Q n x1 x2 x3 σ → wp_J7_fill_53178_C_c48_l5 Q' n x1 x2 x3 σ := by
  intro n
  induction n with
  | zero => intro _ _ _ _ _ h; exact h.elim
  | succ n ih =>
    intro x1 x2 x3 σ f0 h
    unfold wp_J7_fill_53178_C_c48_l5 at h ⊢
    refine ⟨fun hc => ?_, fun hc => ?_⟩
    · replace h := h.1 hc
      exact hq _ _ h f0
    · replace h := h.2 hc
      refine ⟨h.1, fun σ1 eσ1 => ?_⟩; replace h := h.2 σ1 eσ1; have fσ1 : Fr S_J7_fill_53178_C_c48 σ0 σ1 := by rw [eσ1]; exact f0.up rfl
      intro v2 ev2; replace h := h v2 ev2
      exact ih _ _ _ _ fσ1 h
set_option maxHeartbeats 1000000 in
theorem mf_J7_fill_53178_C_c48 {Q Q' : Int → St → Prop} {σ0 : St} (hq : ∀ (r : Int) (σ1 : St), Q r σ1 → Fr S_J7_fill_53178_C_c48 σ0 σ1 → Q' r σ1) {x1 : Int} {σ : St} (f0 : Fr S_J7_fill_53178_C_c48 σ0 σ) (h : wp_J7_fill_53178_C_c48 x1 σ Q) : wp_J7_fill_53178_C_c48 x1 σ Q' := by
  unfold wp_J7_fill_53178_C_c48 at h ⊢
  exact mf_J7_fill_53178_C_c48_l5 hq bigN _ _ _ _ f0 h
set_option maxHeartbeats 1000000 in
theorem mf_X7_swapRows_l2 {Q Q' : Int → St → Prop} {σ0 : St} (hq : ∀ (r : Int) (σ1 : St), Q r σ1 → Fr S_X7_swapRows σ0 σ1 → Q' r σ1) : ∀ (n : Nat) (x1 : Int) (x2 : Int) (x3 : Int) (σ : St), Fr S_X7_swapRows σ0 σ → wp_X7_swapRows_l2 Q n x1 x2 x3 σ → wp_X7_swapRows_l2 Q' n x1 x2 x3 σ := by
  intro n
  induction n with
  | zero => intro _ _ _ _ _ h; exact h.elim
  | succ n ih =>
    intro x1 x2 x3 σ f0 h
    unfold wp_X7_swapRows_l2 at h ⊢
    refine ⟨fun hc => ?_, fun hc => ?_⟩
    · replace h := h.1 hc
      exact hq _ _ h f0
    · replace h := h.2 hc
      refine ⟨fun hc => ?_, fun hc => ?_⟩
      · replace h := h.1 hc
        exact hq _ _ h f0
      · replace h := h.2 hc
        refine ⟨h.1, ?_⟩; replace h := h.2
        intro v1 ev1; replace h := h v1 ev1
        refine ⟨h.1, ?_⟩; replace h := h.2
        refine ⟨h.1, fun σ2 eσ2 => ?_⟩; replace h := h.2 σ2 eσ2; have fσ2 : Fr S_X7_swapRows σ0 σ2 := by rw [eσ2]; exact f0.up rfl
        refine ⟨h.1, fun σ3 eσ3 => ?_⟩; replace h := h.2 σ3 eσ3; have fσ3 : Fr S_X7_swapRows σ0 σ3 := by rw [eσ3]; exact fσ2.up rfl
        intro v4 ev4; replace h := h v4 ev4
        exact ih _ _ _ _ fσ3 h
set_option maxHeartbeats 1000000 in
theorem mf_X7_swapRows {Q Q' : Int → St → Prop} {σ0 : St} (hq : ∀ (r : Int) (σ1 : St), Q r σ1 → Fr S_X7_swapRows σ0 σ1 → Q' r σ1) {x1 x2 : Int} {σ : St} (f0 : Fr S_X7_swapRows σ0 σ) (h : wp_X7_swapRows x1 x2 σ Q) : wp_X7_swapRows x1 x2 σ Q' := by
  unfold wp_X7_swapRows at h ⊢
  exact mf_X7_swapRows_l2 hq bigN _ _ _ _ f0 h
set_option maxHeartbeats 1000000 in
theorem mf_X7_inverse_b27 {Q Q' : Int → St → Prop} {σ0 : St} (hq : ∀ (r : Int) (σ1 : St), Q r σ1 → Fr S_X7_inverse σ0 σ1 → Q' r σ1) {K8 K8' : Int → Int → Int → St → Prop} (hK8 : ∀ (x1 : Int) (x2 : Int) (x3 : Int) (σ : St), Fr S_X7_inverse σ0 σ → K8 x1 x2 x3 σ → K8' x1 x2 x3 σ) {x1 x2 x3 : Int} {σ : St} (f0 : Fr S_X7_inverse σ0 σ) (h : wp_X7_inverse_b27 Q K8 x1 x2 x3 σ) : wp_X7_inverse_b27 Q' K8' x1 x2 x3 σ := by
  unfold wp_X7_inverse_b27 at h ⊢
  intro v2 ev2; replace h := h v2 ev2
  intro v3 ev3; replace h := h v3 ev3
  exact hK8 _ _ _ _ f0 h
set_option maxHeartbeats 1000000 in
theorem mf_X7_inverse_l8 {Q Q' : Int → St → Prop} {σ0 : St} (hq : ∀ (r : Int) (σ1 : St), Q r σ1 → Fr S_X7_inverse σ0 σ1 → Q' r σ1) : ∀ (n : Nat) (x1 : Int) (x2 : Int) (x3 : Int) (σ : St), Fr S_X7_inverse σ0 σ → wp_X7_inverse_l8 Q n x1 x2 x3 σ → wp_X7_inverse_l8 Q' n x1 x2 x3 σ := by
  intro n
  induction n with
  | zero => intro _ _ _ _ _ h; exact h.elim
  | succ n ih =>
    intro x1 x2 x3 σ f0 h
    unfold wp_X7_inverse_l8 at h ⊢
    refine ⟨fun hc => ?_, fun hc => ?_⟩
    · replace h := h.1 hc
      exact hq _ _ h f0
    · replace h := h.2 hc
      refine ⟨fun hc => ?_, fun hc => ?_⟩
      · replace h := h.1 hc
        exact mf_X7_inverse_b27 hq ih f0 h
      · replace h := h.2 hc
        intro v1 ev1; replace h := h v1 ev1
        exact mf_X7_inverse_b27 hq ih f0 h
set_option maxHeartbeats 1000000 in
theorem mf_X7_inverse {Q Q' : Int → St → Prop} {σ0 : St} (hq : ∀ (r : Int) (σ1 : St), Q r σ1 → Fr S_X7_inverse σ0 σ1 → Q' r σ1) {x0 : Int} {σ : St} (f0 : Fr S_X7_inverse σ0 σ) (h : wp_X7_inverse x0 σ Q) : wp_X7_inverse x0 σ Q' := by
  unfold wp_X7_inverse at h ⊢
  exact mf_X7_inverse_l8 hq bigN _ _ _ _ f0 h
set_option maxHeartbeats 1000000 in
theorem mf_X7_scaleRow_l2 {Q Q' : Int → St → Prop} {σ0 : St} (hq : ∀ (r : Int) (σ1 : St), Q r σ1 → Fr S_X7_scaleRow σ0 σ1 → Q' r σ1) : ∀ (n : Nat) (x1 : Int) (x2 : Int) (x3 : Int) (σ : St), Fr S_X7_scaleRow σ0 σ → wp_X7_scaleRow_l2 Q n x1 x2 x3 σ → wp_X7_scaleRow_l2 Q' n x1 x2 x3 σ := by
  intro n
  induction n with
  | zero => intro _ _ _ _ _ h; exact h.elim
  | succ n ih =>
    intro x1 x2 x3 σ f0 h
    unfold wp_X7_scaleRow_l2 at h ⊢
    refine ⟨fun hc => ?_, fun hc => ?_⟩
    · replace h := h.1 hc
      exact hq _ _ h f0
    · replace h := h.2 hc
      refine ⟨fun hc => ?_, fun hc => ?_⟩
      · replace h := h.1 hc
        exact hq _ _ h f0
      · replace h := h.2 hc
        refine ⟨h.1, ?_⟩; replace h := h.2
        refine ⟨h.1, fun σ1 eσ1 => ?_⟩; replace h := h.2 σ1 eσ1; have fσ1 : Fr S_X7_scaleRow σ0 σ1 := by rw [eσ1]; exact f0.up rfl
        intro v2 ev2; replace h := h v2 ev2
        exact ih _ _ _ _ fσ1 h
set_option maxHeartbeats 1000000 in
theorem mf_X7_scaleRow {Q Q' : Int → St → Prop} {σ0 : St} (hq : ∀ (r : Int) (σ1 : St), Q r σ1 → Fr S_X7_scaleRow σ0 σ1 → Q' r σ1) {x1 x2 : Int} {σ : St} (f0 : Fr S_X7_scaleRow σ0 σ) (h : wp_X7_scaleRow x1 x2 σ Q) : wp_X7_scaleRow x1 x2 σ Q' := by
  unfold wp_X7_scaleRow at h ⊢
  exact mf_X7_scaleRow_l2 hq bigN _ _ _ _ f0 h
set_option maxHeartbeats 1000000 in
theorem mf_J9_floorMod_7cf53_C {Q Q' : Int → St → Prop} {σ0 : St} (hq : ∀ (r : Int) (σ1 : St), Q r σ1 → Fr S_J9_floorMod_7cf53_C σ0 σ1 → Q' r σ1) {x0 x1 : Int} {σ : St} (f0 : Fr S_J9_floorMod_7cf53_C σ0 σ) (h : wp_J9_floorMod_7cf53_C x0 x1 σ Q) : wp_J9_floorMod_7cf53_C x0 x1 σ Q' := by
  unfold wp_J9_floorMod_7cf53_C at h ⊢
  refine ⟨h.1, ?_⟩; replace h := h.2
  intro v1 ev1; replace h := h v1 ev1
  refine ⟨fun hc => ?_, fun hc => ?_⟩
  · replace h := h.1 hc
    exact hq _ _ h f0
  · replace h := h.2 hc
    refine ⟨fun hc => ?_, fun hc => ?_⟩
    · replace h := h.1 hc
      exact hq _ _ h f0
    · replace h := h.2 hc
      exact hq _ _ h f0
set_option maxHeartbeats 1000000 in
theorem mf_X7_subtractRow_l3 {Q Q' : Int → St → Prop} {σ0 : St} (hq : ∀ (r : Int) (σ1 : St), Q r σ1 → Fr S_X7_subtractRow σ0 σ1 → Q' r σ1) : ∀ (n : Nat) (x1 : Int) (x2 : Int) (x3 : Int) (x4 : Int) (σ : St), Fr S_X7_subtractRow σ0 σ → wp_X7_subtractRow_l3 Q n x1 x2 x3 x4 σ → wp_X7_subtractRow_l3 Q' n x1 x2 x3 x4 σ := by
  intro n
  induction n with
  | zero => intro _ _ _ _ _ _ h; exact h.elim
  | succ n ih =>
    intro x1 x2 x3 x4 σ f0 h
    unfold wp_X7_subtractRow_l3 at h ⊢
    refine ⟨fun hc => ?_, fun hc => ?_⟩
    · replace h := h.1 hc
      exact hq _ _ h f0
    · replace h := h.2 hc
      refine ⟨fun hc => ?_, fun hc => ?_⟩
      · replace h := h.1 hc
        exact hq _ _ h f0
      · replace h := h.2 hc
        refine ⟨h.1, ?_⟩; replace h := h.2
        intro v1 ev1; replace h := h v1 ev1
        refine ⟨h.1, ?_⟩; replace h := h.2
        refine mf_J9_floorMod_7cf53_C (fun r2 σ3 h gσ3 => ?_) Fr.rf h
        have fσ3 : Fr S_X7_subtractRow σ0 σ3 := f0.tr gσ3 (mkS_sub (by decide) (by decide))
        refine ⟨h.1, fun σ4 eσ4 => ?_⟩; replace h := h.2 σ4 eσ4; have fσ4 : Fr S_X7_subtractRow σ0 σ4 := by rw [eσ4]; exact fσ3.up rfl
        intro v5 ev5; replace h := h v5 ev5
        exact ih _ _ _ _ _ fσ4 h
set_option maxHeartbeats 1000000 in
theorem mf_X7_subtractRow {Q Q' : Int → St → Prop} {σ0 : St} (hq : ∀ (r : Int) (σ1 : St), Q r σ1 → Fr S_X7_subtractRow σ0 σ1 → Q' r σ1) {x1 x2 x3 : Int} {σ : St} (f0 : Fr S_X7_subtractRow σ0 σ) (h : wp_X7_subtractRow x1 x2 x3 σ Q) : wp_X7_subtractRow x1 x2 x3 σ Q' := by
  unfold wp_X7_subtractRow at h ⊢
  exact mf_X7_subtractRow_l3 hq bigN _ _ _ _ _ f0 h
set_option maxHeartbeats 1000000 in
theorem mf_X7_eliminate_b100 {Q Q' : Int → St → Prop} {σ0 : St} (hq : ∀ (r : Int) (σ1 : St), Q r σ1 → Fr S_X7_eliminate σ0 σ1 → Q' r σ1) {K2 K2' : Int → Int → St → Prop} (hK2 : ∀ (x1 : Int) (x2 : Int) (σ : St), Fr S_X7_eliminate σ0 σ → K2 x1 x2 σ → K2' x1 x2 σ) {K69 K69' : Int → Int → Int → St → Prop} (hK69 : ∀ (x1 : Int) (x2 : Int) (x4 : Int) (σ : St), Fr S_X7_eliminate σ0 σ → K69 x1 x2 x4 σ → K69' x1 x2 x4 σ) {x1 x2 x4 : Int} {σ : St} (f0 : Fr S_X7_eliminate σ0 σ) (h : wp_X7_eliminate_b100 Q K2 K69 x1 x2 x4 σ) : wp_X7_eliminate_b100 Q' K2' K69' x1 x2 x4 σ := by
  unfold wp_X7_eliminate_b100 at h ⊢
  intro v11 ev11; replace h := h v11 ev11
  exact hK69 _ _ _ _ f0 h
set_option maxHeartbeats 1000000 in
theorem mf_X7_eliminate_l69 {Q Q' : Int → St → Prop} {σ0 : St} (hq : ∀ (r : Int) (σ1 : St), Q r σ1 → Fr S_X7_eliminate σ0 σ1 → Q' r σ1) {K2 K2' : Int → Int → St → Prop} (hK2 : ∀ (x1 : Int) (x2 : Int) (σ : St), Fr S_X7_eliminate σ0 σ → K2 x1 x2 σ → K2' x1 x2 σ) : ∀ (n : Nat) (x1 : Int) (x2 : Int) (x4 : Int) (σ : St), Fr S_X7_eliminate σ0 σ → wp_X7_eliminate_l69 Q K2 n x1 x2 x4 σ → wp_X7_eliminate_l69 Q' K2' n x1 x2 x4 σ := by
  intro n
  induction n with
  | zero => intro _ _ _ _ _ h; exact h.elim
  | succ n ih =>
    intro x1 x2 x4 σ f0 h
    unfold wp_X7_eliminate_l69 at h ⊢
    refine ⟨fun hc => ?_, fun hc => ?_⟩
    · replace h := h.1 hc
      intro v8 ev8; replace h := h v8 ev8
      exact hK2 _ _ _ f0 h
    · replace h := h.2 hc
      refine ⟨fun hc => ?_, fun hc => ?_⟩
      · replace h := h.1 hc
        exact mf_X7_eliminate_b100 hq hK2 ih f0 h
      · replace h := h.2 hc
        refine ⟨h.1, ?_⟩; replace h := h.2
        refine mf_X7_subtractRow (fun r9 σ10 h gσ10 => ?_) Fr.rf h
        have fσ10 : Fr S_X7_eliminate σ0 σ10 := f0.tr gσ10 (mkS_sub (by decide) (by decide))
        exact mf_X7_eliminate_b100 hq hK2 ih fσ10 h
set_option maxHeartbeats 1000000 in
theorem mf_X7_eliminate_b34 {Q Q' : Int → St → Prop} {σ0 : St} (hq : ∀ (r : Int) (σ1 : St), Q r σ1 → Fr S_X7_eliminate σ0 σ1 → Q' r σ1) {K2 K2' : Int → Int → St → Prop} (hK2 : ∀ (x1 : Int) (x2 : Int) (σ : St), Fr S_X7_eliminate σ0 σ → K2 x1 x2 σ → K2' x1 x2 σ) {x1 x2 x3 : Int} {σ : St} (f0 : Fr S_X7_eliminate σ0 σ) (h : wp_X7_eliminate_b34 Q K2 x1 x2 x3 σ) : wp_X7_eliminate_b34 Q' K2' x1 x2 x3 σ := by
  unfold wp_X7_eliminate_b34 at h ⊢
  refine ⟨fun hc => ?_, fun hc => ?_⟩
  · replace h := h.1 hc
    refine mf_X7_swapRows (fun r2 σ3 h gσ3 => ?_) Fr.rf h
    have fσ3 : Fr S_X7_eliminate σ0 σ3 := f0.tr gσ3 (mkS_sub (by decide) (by decide))
    refine ⟨h.1, ?_⟩; replace h := h.2
    refine mf_X7_inverse (fun r4 σ5 h gσ5 => ?_) Fr.rf h
    have fσ5 : Fr S_X7_eliminate σ0 σ5 := fσ3.tr gσ5 (mkS_sub (by decide) (by decide))
    refine mf_X7_scaleRow (fun r6 σ7 h gσ7 => ?_) Fr.rf h
    have fσ7 : Fr S_X7_eliminate σ0 σ7 := fσ5.tr gσ7 (mkS_sub (by decide) (by decide))
    exact mf_X7_eliminate_l69 hq hK2 bigN _ _ _ _ fσ7 h
  · replace h := h.2 hc
    exact hq _ _ h f0
set_option maxHeartbeats 1000000 in
theorem mf_X7_eliminate_l9 {Q Q' : Int → St → Prop} {σ0 : St} (hq : ∀ (r : Int) (σ1 : St), Q r σ1 → Fr S_X7_eliminate σ0 σ1 → Q' r σ1) {K2 K2' : Int → Int → St → Prop} (hK2 : ∀ (x1 : Int) (x2 : Int) (σ : St), Fr S_X7_eliminate σ0 σ → K2 x1 x2 σ → K2' x1 x2 σ) : ∀ (n : Nat) (x1 : Int) (x2 : Int) (x3 : Int) (σ : St), Fr S_X7_eliminate σ0 σ → wp_X7_eliminate_l9 Q K2 n x1 x2 x3 σ → wp_X7_eliminate_l9 Q' K2' n x1 x2 x3 σ := by
  intro n
  induction n with
  | zero => intro _ _ _ _ _ h; exact h.elim
  | succ n ih =>
    intro x1 x2 x3 σ f0 h
    unfold wp_X7_eliminate_l9 at h ⊢
    refine ⟨fun hc => ?_, fun hc => ?_⟩
    · replace h := h.1 hc
      exact mf_X7_eliminate_b34 hq hK2 f0 h
    · replace h := h.2 hc
      refine ⟨h.1, ?_⟩; replace h := h.2
      refine ⟨fun hc => ?_, fun hc => ?_⟩
      · replace h := h.1 hc
        exact mf_X7_eliminate_b34 hq hK2 f0 h
      · replace h := h.2 hc
        intro v1 ev1; replace h := h v1 ev1
        exact ih _ _ _ _ f0 h
set_option maxHeartbeats 1000000 in
theorem mf_X7_eliminate_l2 {Q Q' : Int → St → Prop} {σ0 : St} (hq : ∀ (r : Int) (σ1 : St), Q r σ1 → Fr S_X7_eliminate σ0 σ1 → Q' r σ1) : ∀ (n : Nat) (x1 : Int) (x2 : Int) (σ : St), Fr S_X7_eliminate σ0 σ → wp_X7_eliminate_l2 Q n x1 x2 σ → wp_X7_eliminate_l2 Q' n x1 x2 σ := by
  intro n
  induction n with
  | zero => intro _ _ _ _ h; exact h.elim
  | succ n ih =>
    intro x1 x2 σ f0 h
    unfold wp_X7_eliminate_l2 at h ⊢
    refine ⟨fun hc => ?_, fun hc => ?_⟩
    · replace h := h.1 hc
      exact hq _ _ h f0
    · replace h := h.2 hc
      exact mf_X7_eliminate_l9 hq ih bigN _ _ _ _ f0 h
set_option maxHeartbeats 1000000 in
theorem mf_X7_eliminate {Q Q' : Int → St → Prop} {σ0 : St} (hq : ∀ (r : Int) (σ1 : St), Q r σ1 → Fr S_X7_eliminate σ0 σ1 → Q' r σ1) {x1 : Int} {σ : St} (f0 : Fr S_X7_eliminate σ0 σ) (h : wp_X7_eliminate x1 σ Q) : wp_X7_eliminate x1 σ Q' := by
  unfold wp_X7_eliminate at h ⊢
  exact mf_X7_eliminate_l2 hq bigN _ _ _ f0 h
set_option maxHeartbeats 1000000 in
theorem mf_X7_setEquation_b261 {Q Q' : Int → St → Prop} {σ0 : St} (hq : ∀ (r : Int) (σ1 : St), Q r σ1 → Fr S_X7_setEquation σ0 σ1 → Q' r σ1) {K24 K24' : Int → Int → Int → St → Prop} (hK24 : ∀ (x1 : Int) (x3 : Int) (x4 : Int) (σ : St), Fr S_X7_setEquation σ0 σ → K24 x1 x3 x4 σ → K24' x1 x3 x4 σ) {x1 x3 x4 : Int} {σ : St} (f0 : Fr S_X7_setEquation σ0 σ) (h : wp_X7_setEquation_b261 Q K24 x1 x3 x4 σ) : wp_X7_setEquation_b261 Q' K24' x1 x3 x4 σ := by
  unfold wp_X7_setEquation_b261 at h ⊢
  intro v18 ev18; replace h := h v18 ev18
  exact hK24 _ _ _ _ f0 h
set_option maxHeartbeats 1000000 in
theorem mf_X7_setEquation_b229 {Q Q' : Int → St → Prop} {σ0 : St} (hq : ∀ (r : Int) (σ1 : St), Q r σ1 → Fr S_X7_setEquation σ0 σ1 → Q' r σ1) {K24 K24' : Int → Int → Int → St → Prop} (hK24 : ∀ (x1 : Int) (x3 : Int) (x4 : Int) (σ : St), Fr S_X7_setEquation σ0 σ → K24 x1 x3 x4 σ → K24' x1 x3 x4 σ) {x1 x3 x4 s0 s1 : Int} {σ : St} (f0 : Fr S_X7_setEquation σ0 σ) (h : wp_X7_setEquation_b229 Q K24 x1 x3 x4 s0 s1 σ) : wp_X7_setEquation_b229 Q' K24' x1 x3 x4 s0 s1 σ := by
  unfold wp_X7_setEquation_b229 at h ⊢
  intro v20 ev20; replace h := h v20 ev20
  refine ⟨h.1, ?_⟩; replace h := h.2
  refine ⟨h.1, fun σ21 eσ21 => ?_⟩; replace h := h.2 σ21 eσ21; have fσ21 : Fr S_X7_setEquation σ0 σ21 := by rw [eσ21]; exact f0.up rfl
  exact mf_X7_setEquation_b261 hq hK24 fσ21 h
set_option maxHeartbeats 1000000 in
theorem mf_X7_setEquation_b204 {Q Q' : Int → St → Prop} {σ0 : St} (hq : ∀ (r : Int) (σ1 : St), Q r σ1 → Fr S_X7_setEquation σ0 σ1 → Q' r σ1) {K24 K24' : Int → Int → Int → St → Prop} (hK24 : ∀ (x1 : Int) (x3 : Int) (x4 : Int) (σ : St), Fr S_X7_setEquation σ0 σ → K24 x1 x3 x4 σ → K24' x1 x3 x4 σ) {x1 x3 x4 x7 s0 s1 : Int} {σ : St} (f0 : Fr S_X7_setEquation σ0 σ) (h : wp_X7_setEquation_b204 Q K24 x1 x3 x4 x7 s0 s1 σ) : wp_X7_setEquation_b204 Q' K24' x1 x3 x4 x7 s0 s1 σ := by
  unfold wp_X7_setEquation_b204 at h ⊢
  intro v19 ev19; replace h := h v19 ev19
  refine ⟨fun hc => ?_, fun hc => ?_⟩
  · replace h := h.1 hc
    refine ⟨h.1, ?_⟩; replace h := h.2
    exact mf_X7_setEquation_b229 hq hK24 f0 h
  · replace h := h.2 hc
    exact mf_X7_setEquation_b229 hq hK24 f0 h
set_option maxHeartbeats 1000000 in
theorem mf_X7_setEquation_b186 {Q Q' : Int → St → Prop} {σ0 : St} (hq : ∀ (r : Int) (σ1 : St), Q r σ1 → Fr S_X7_setEquation σ0 σ1 → Q' r σ1) {K24 K24' : Int → Int → Int → St → Prop} (hK24 : ∀ (x1 : Int) (x3 : Int) (x4 : Int) (σ : St), Fr S_X7_setEquation σ0 σ → K24 x1 x3 x4 σ → K24' x1 x3 x4 σ) {x1 x3 x4 x5 x6 x7 : Int} {σ : St} (f0 : Fr S_X7_setEquation σ0 σ) (h : wp_X7_setEquation_b186 Q K24 x1 x3 x4 x5 x6 x7 σ) : wp_X7_setEquation_b186 Q' K24' x1 x3 x4 x5 x6 x7 σ := by
  unfold wp_X7_setEquation_b186 at h ⊢
  refine ⟨fun hc => ?_, fun hc => ?_⟩
  · replace h := h.1 hc
    refine ⟨h.1, ?_⟩; replace h := h.2
    exact mf_X7_setEquation_b204 hq hK24 f0 h
  · replace h := h.2 hc
    exact mf_X7_setEquation_b204 hq hK24 f0 h
set_option maxHeartbeats 1000000 in
theorem mf_X7_setEquation_b166 {Q Q' : Int → St → Prop} {σ0 : St} (hq : ∀ (r : Int) (σ1 : St), Q r σ1 → Fr S_X7_setEquation σ0 σ1 → Q' r σ1) {K24 K24' : Int → Int → Int → St → Prop} (hK24 : ∀ (x1 : Int) (x3 : Int) (x4 : Int) (σ : St), Fr S_X7_setEquation σ0 σ → K24 x1 x3 x4 σ → K24' x1 x3 x4 σ) {x1 x3 x4 x5 x6 x7 : Int} {σ : St} (f0 : Fr S_X7_setEquation σ0 σ) (h : wp_X7_setEquation_b166 Q K24 x1 x3 x4 x5 x6 x7 σ) : wp_X7_setEquation_b166 Q' K24' x1 x3 x4 x5 x6 x7 σ := by
  unfold wp_X7_setEquation_b166 at h ⊢
  refine ⟨fun hc => ?_, fun hc => ?_⟩
  · replace h := h.1 hc
    exact mf_X7_setEquation_b186 hq hK24 f0 h
  · replace h := h.2 hc
    refine ⟨h.1, ?_⟩; replace h := h.2
    refine ⟨fun hc => ?_, fun hc => ?_⟩
    · replace h := h.1 hc
      exact mf_X7_setEquation_b186 hq hK24 f0 h
    · replace h := h.2 hc
      exact hq _ _ h f0
set_option maxHeartbeats 1000000 in
theorem mf_X7_setEquation_l24 {Q Q' : Int → St → Prop} {σ0 : St} (hq : ∀ (r : Int) (σ1 : St), Q r σ1 → Fr S_X7_setEquation σ0 σ1 → Q' r σ1) : ∀ (n : Nat) (x1 : Int) (x3 : Int) (x4 : Int) (σ : St), Fr S_X7_setEquation σ0 σ → wp_X7_setEquation_l24 Q n x1 x3 x4 σ → wp_X7_setEquation_l24 Q' n x1 x3 x4 σ := by
  intro n
  induction n with
  | zero => intro _ _ _ _ _ h; exact h.elim
  | succ n ih =>
    intro x1 x3 x4 σ f0 h
    unfold wp_X7_setEquation_l24 at h ⊢
    refine mf_X0_caseEnd (fun r5 σ6 h gσ6 => ?_) Fr.rf h
    have fσ6 : Fr S_X7_setEquation σ0 σ6 := f0.tr gσ6 (mkS_sub (by decide) (by decide))
    refine ⟨fun hc => ?_, fun hc => ?_⟩
    · replace h := h.1 hc
      exact hq _ _ h fσ6
    · replace h := h.2 hc
      refine ⟨h.1, ?_⟩; replace h := h.2
      refine ⟨h.1, ?_⟩; replace h := h.2
      intro v7 ev7; replace h := h v7 ev7
      refine ⟨h.1, ?_⟩; replace h := h.2
      intro v8 ev8; replace h := h v8 ev8
      refine ⟨h.1, ?_⟩; replace h := h.2
      intro v9 ev9; replace h := h v9 ev9
      refine mf_X1_isFull (fun r10 σ11 h gσ11 => ?_) Fr.rf h
      have fσ11 : Fr S_X7_setEquation σ0 σ11 := fσ6.tr gσ11 (mkS_sub (by decide) (by decide))
      refine ⟨fun hc => ?_, fun hc => ?_⟩
      · replace h := h.1 hc
        refine mf_X0_goesOn (fun r12 σ13 h gσ13 => ?_) Fr.rf h
        have fσ13 : Fr S_X7_setEquation σ0 σ13 := fσ11.tr gσ13 (mkS_sub (by decide) (by decide))
        refine ⟨fun hc => ?_, fun hc => ?_⟩
        · replace h := h.1 hc
          refine ⟨fun hc => ?_, fun hc => ?_⟩
          · replace h := h.1 hc
            exact mf_X7_setEquation_b166 hq ih fσ13 h
          · replace h := h.2 hc
            refine ⟨h.1, ?_⟩; replace h := h.2
            refine ⟨fun hc => ?_, fun hc => ?_⟩
            · replace h := h.1 hc
              exact hq _ _ h fσ13
            · replace h := h.2 hc
              exact mf_X7_setEquation_b166 hq ih fσ13 h
        · replace h := h.2 hc
          refine ⟨h.1, ?_⟩; replace h := h.2
          intro v14 ev14; replace h := h v14 ev14
          refine ⟨h.1, ?_⟩; replace h := h.2
          refine mf_J9_floorMod_7cf53_C (fun r15 σ16 h gσ16 => ?_) Fr.rf h
          have fσ16 : Fr S_X7_setEquation σ0 σ16 := fσ13.tr gσ16 (mkS_sub (by decide) (by decide))
          refine ⟨h.1, fun σ17 eσ17 => ?_⟩; replace h := h.2 σ17 eσ17; have fσ17 : Fr S_X7_setEquation σ0 σ17 := by rw [eσ17]; exact fσ16.up rfl
          exact mf_X7_setEquation_b261 hq ih fσ17 h
      · replace h := h.2 hc
        exact mf_X7_setEquation_b261 hq ih fσ11 h
set_option maxHeartbeats 1000000 in
theorem mf_X7_setEquation {Q Q' : Int → St → Prop} {σ0 : St} (hq : ∀ (r : Int) (σ1 : St), Q r σ1 → Fr S_X7_setEquation σ0 σ1 → Q' r σ1) {x1 x2 : Int} {σ : St} (f0 : Fr S_X7_setEquation σ0 σ) (h : wp_X7_setEquation x1 x2 σ Q) : wp_X7_setEquation x1 x2 σ Q' := by
  unfold wp_X7_setEquation at h ⊢
  intro v1 ev1; replace h := h v1 ev1
  refine ⟨h.1, fun σ2 eσ2 => ?_⟩; replace h := h.2 σ2 eσ2; have fσ2 : Fr S_X7_setEquation σ0 σ2 := by rw [eσ2]; exact f0.up rfl
  refine mf_X0_caseStart (fun r3 σ4 h gσ4 => ?_) Fr.rf h
  have fσ4 : Fr S_X7_setEquation σ0 σ4 := fσ2.tr gσ4 (mkS_sub (by decide) (by decide))
  exact mf_X7_setEquation_l24 hq bigN _ _ _ _ fσ4 h
set_option maxHeartbeats 1000000 in
theorem mf_X7_solveSpan_b42 {Q Q' : Int → St → Prop} {σ0 : St} (hq : ∀ (r : Int) (σ1 : St), Q r σ1 → Fr S_X7_solveSpan σ0 σ1 → Q' r σ1) {K10 K10' : Int → Int → Int → Int → St → Prop} (hK10 : ∀ (x1 : Int) (x2 : Int) (x3 : Int) (x4 : Int) (σ : St), Fr S_X7_solveSpan σ0 σ → K10 x1 x2 x3 x4 σ → K10' x1 x2 x3 x4 σ) {x1 x2 x3 x4 : Int} {σ : St} (f0 : Fr S_X7_solveSpan σ0 σ) (h : wp_X7_solveSpan_b42 Q K10 x1 x2 x3 x4 σ) : wp_X7_solveSpan_b42 Q' K10' x1 x2 x3 x4 σ := by
  unfold wp_X7_solveSpan_b42 at h ⊢
  intro v15 ev15; replace h := h v15 ev15
  exact hK10 _ _ _ _ _ f0 h
set_option maxHeartbeats 1000000 in
theorem mf_X7_solveSpan_b103 {Q Q' : Int → St → Prop} {σ0 : St} (hq : ∀ (r : Int) (σ1 : St), Q r σ1 → Fr S_X7_solveSpan σ0 σ1 → Q' r σ1) {K62 K62' : Int → Int → Int → Int → Int → St → Prop} (hK62 : ∀ (x1 : Int) (x2 : Int) (x3 : Int) (x4 : Int) (x5 : Int) (σ : St), Fr S_X7_solveSpan σ0 σ → K62 x1 x2 x3 x4 x5 σ → K62' x1 x2 x3 x4 x5 σ) {x1 x2 x3 x4 x5 : Int} {σ : St} (f0 : Fr S_X7_solveSpan σ0 σ) (h : wp_X7_solveSpan_b103 Q K62 x1 x2 x3 x4 x5 σ) : wp_X7_solveSpan_b103 Q' K62' x1 x2 x3 x4 x5 σ := by
  unfold wp_X7_solveSpan_b103 at h ⊢
  intro v16 ev16; replace h := h v16 ev16
  exact hK62 _ _ _ _ _ _ f0 h
set_option maxHeartbeats 1000000 in
theorem mf_X7_solveSpan_b216 {Q Q' : Int → St → Prop} {σ0 : St} (hq : ∀ (r : Int) (σ1 : St), Q r σ1 → Fr S_X7_solveSpan σ0 σ1 → Q' r σ1) {K148 K148' : Int → Int → Int → St → Prop} (hK148 : ∀ (x2 : Int) (x4 : Int) (x5 : Int) (σ : St), Fr S_X7_solveSpan σ0 σ → K148 x2 x4 x5 σ → K148' x2 x4 x5 σ) {x2 x4 x5 s0 s1 : Int} {σ : St} (f0 : Fr S_X7_solveSpan σ0 σ) (h : wp_X7_solveSpan_b216 Q K148 x2 x4 x5 s0 s1 σ) : wp_X7_solveSpan_b216 Q' K148' x2 x4 x5 s0 s1 σ := by
  unfold wp_X7_solveSpan_b216 at h ⊢
  refine ⟨h.1, fun σ20 eσ20 => ?_⟩; replace h := h.2 σ20 eσ20; have fσ20 : Fr S_X7_solveSpan σ0 σ20 := by rw [eσ20]; exact f0.up rfl
  intro v21 ev21; replace h := h v21 ev21
  exact hK148 _ _ _ _ fσ20 h
set_option maxHeartbeats 1000000 in
theorem mf_X7_solveSpan_b179 {Q Q' : Int → St → Prop} {σ0 : St} (hq : ∀ (r : Int) (σ1 : St), Q r σ1 → Fr S_X7_solveSpan σ0 σ1 → Q' r σ1) {K148 K148' : Int → Int → Int → St → Prop} (hK148 : ∀ (x2 : Int) (x4 : Int) (x5 : Int) (σ : St), Fr S_X7_solveSpan σ0 σ → K148 x2 x4 x5 σ → K148' x2 x4 x5 σ) {x2 x4 x5 s0 : Int} {σ : St} (f0 : Fr S_X7_solveSpan σ0 σ) (h : wp_X7_solveSpan_b179 Q K148 x2 x4 x5 s0 σ) : wp_X7_solveSpan_b179 Q' K148' x2 x4 x5 s0 σ := by
  unfold wp_X7_solveSpan_b179 at h ⊢
  refine ⟨fun hc => ?_, fun hc => ?_⟩
  · replace h := h.1 hc
    exact mf_X7_solveSpan_b216 hq hK148 f0 h
  · replace h := h.2 hc
    refine ⟨h.1, ?_⟩; replace h := h.2
    refine ⟨h.1, ?_⟩; replace h := h.2
    exact mf_X7_solveSpan_b216 hq hK148 f0 h
set_option maxHeartbeats 1000000 in
theorem mf_X7_solveSpan_b178 {Q Q' : Int → St → Prop} {σ0 : St} (hq : ∀ (r : Int) (σ1 : St), Q r σ1 → Fr S_X7_solveSpan σ0 σ1 → Q' r σ1) {K148 K148' : Int → Int → Int → St → Prop} (hK148 : ∀ (x2 : Int) (x4 : Int) (x5 : Int) (σ : St), Fr S_X7_solveSpan σ0 σ → K148 x2 x4 x5 σ → K148' x2 x4 x5 σ) {x2 x4 x5 : Int} {σ : St} (f0 : Fr S_X7_solveSpan σ0 σ) (h : wp_X7_solveSpan_b178 Q K148 x2 x4 x5 σ) : wp_X7_solveSpan_b178 Q' K148' x2 x4 x5 σ := by
  unfold wp_X7_solveSpan_b178 at h ⊢
  exact mf_X7_solveSpan_b179 hq hK148 f0 h
set_option maxHeartbeats 1000000 in
theorem mf_X7_solveSpan_l148 {Q Q' : Int → St → Prop} {σ0 : St} (hq : ∀ (r : Int) (σ1 : St), Q r σ1 → Fr S_X7_solveSpan σ0 σ1 → Q' r σ1) : ∀ (n : Nat) (x2 : Int) (x4 : Int) (x5 : Int) (σ : St), Fr S_X7_solveSpan σ0 σ → wp_X7_solveSpan_l148 Q n x2 x4 x5 σ → wp_X7_solveSpan_l148 Q' n x2 x4 x5 σ := by
  intro n
  induction n with
  | zero => intro _ _ _ _ _ h; exact h.elim
  | succ n ih =>
    intro x2 x4 x5 σ f0 h
    unfold wp_X7_solveSpan_l148 at h ⊢
    refine ⟨fun hc => ?_, fun hc => ?_⟩
    · replace h := h.1 hc
      exact hq _ _ h f0
    · replace h := h.2 hc
      refine ⟨fun hc => ?_, fun hc => ?_⟩
      · replace h := h.1 hc
        exact mf_X7_solveSpan_b178 hq ih f0 h
      · replace h := h.2 hc
        refine mf_X1_has (fun r18 σ19 h gσ19 => ?_) Fr.rf h
        have fσ19 : Fr S_X7_solveSpan σ0 σ19 := f0.tr gσ19 (mkS_sub (by decide) (by decide))
        refine ⟨fun hc => ?_, fun hc => ?_⟩
        · replace h := h.1 hc
          exact mf_X7_solveSpan_b178 hq ih fσ19 h
        · replace h := h.2 hc
          exact mf_X7_solveSpan_b179 hq ih fσ19 h
set_option maxHeartbeats 1000000 in
theorem mf_X7_solveSpan_b144 {Q Q' : Int → St → Prop} {σ0 : St} (hq : ∀ (r : Int) (σ1 : St), Q r σ1 → Fr S_X7_solveSpan σ0 σ1 → Q' r σ1) {x2 x4 s0 s1 : Int} {σ : St} (f0 : Fr S_X7_solveSpan σ0 σ) (h : wp_X7_solveSpan_b144 Q x2 x4 s0 s1 σ) : wp_X7_solveSpan_b144 Q' x2 x4 s0 s1 σ := by
  unfold wp_X7_solveSpan_b144 at h ⊢
  refine ⟨h.1, fun σ17 eσ17 => ?_⟩; replace h := h.2 σ17 eσ17; have fσ17 : Fr S_X7_solveSpan σ0 σ17 := by rw [eσ17]; exact f0.up rfl
  exact mf_X7_solveSpan_l148 hq bigN _ _ _ _ fσ17 h
set_option maxHeartbeats 1000000 in
theorem mf_X7_solveSpan_b127 {Q Q' : Int → St → Prop} {σ0 : St} (hq : ∀ (r : Int) (σ1 : St), Q r σ1 → Fr S_X7_solveSpan σ0 σ1 → Q' r σ1) {x1 x2 s0 : Int} {σ : St} (f0 : Fr S_X7_solveSpan σ0 σ) (h : wp_X7_solveSpan_b127 Q x1 x2 s0 σ) : wp_X7_solveSpan_b127 Q' x1 x2 s0 σ := by
  unfold wp_X7_solveSpan_b127 at h ⊢
  refine ⟨fun hc => ?_, fun hc => ?_⟩
  · replace h := h.1 hc
    exact mf_X7_solveSpan_b144 hq f0 h
  · replace h := h.2 hc
    exact mf_X7_solveSpan_b144 hq f0 h
set_option maxHeartbeats 1000000 in
theorem mf_X7_solveSpan_b126 {Q Q' : Int → St → Prop} {σ0 : St} (hq : ∀ (r : Int) (σ1 : St), Q r σ1 → Fr S_X7_solveSpan σ0 σ1 → Q' r σ1) {x1 x2 : Int} {σ : St} (f0 : Fr S_X7_solveSpan σ0 σ) (h : wp_X7_solveSpan_b126 Q x1 x2 σ) : wp_X7_solveSpan_b126 Q' x1 x2 σ := by
  unfold wp_X7_solveSpan_b126 at h ⊢
  exact mf_X7_solveSpan_b127 hq f0 h
set_option maxHeartbeats 1000000 in
theorem mf_X7_solveSpan_l62 {Q Q' : Int → St → Prop} {σ0 : St} (hq : ∀ (r : Int) (σ1 : St), Q r σ1 → Fr S_X7_solveSpan σ0 σ1 → Q' r σ1) : ∀ (n : Nat) (x1 : Int) (x2 : Int) (x3 : Int) (x4 : Int) (x5 : Int) (σ : St), Fr S_X7_solveSpan σ0 σ → wp_X7_solveSpan_l62 Q n x1 x2 x3 x4 x5 σ → wp_X7_solveSpan_l62 Q' n x1 x2 x3 x4 x5 σ := by
  intro n
  induction n with
  | zero => intro _ _ _ _ _ _ _ h; exact h.elim
  | succ n ih =>
    intro x1 x2 x3 x4 x5 σ f0 h
    unfold wp_X7_solveSpan_l62 at h ⊢
    refine ⟨fun hc => ?_, fun hc => ?_⟩
    · replace h := h.1 hc
      refine ⟨fun hc => ?_, fun hc => ?_⟩
      · replace h := h.1 hc
        exact mf_X7_solveSpan_b126 hq f0 h
      · replace h := h.2 hc
        refine mf_X7_eliminate (fun r8 σ9 h gσ9 => ?_) Fr.rf h
        have fσ9 : Fr S_X7_solveSpan σ0 σ9 := f0.tr gσ9 (mkS_sub (by decide) (by decide))
        refine ⟨fun hc => ?_, fun hc => ?_⟩
        · replace h := h.1 hc
          exact mf_X7_solveSpan_b126 hq fσ9 h
        · replace h := h.2 hc
          exact mf_X7_solveSpan_b127 hq fσ9 h
    · replace h := h.2 hc
      refine mf_X1_has (fun r10 σ11 h gσ11 => ?_) Fr.rf h
      have fσ11 : Fr S_X7_solveSpan σ0 σ11 := f0.tr gσ11 (mkS_sub (by decide) (by decide))
      refine ⟨fun hc => ?_, fun hc => ?_⟩
      · replace h := h.1 hc
        exact mf_X7_solveSpan_b103 hq ih fσ11 h
      · replace h := h.2 hc
        refine ⟨h.1, ?_⟩; replace h := h.2
        refine mf_X7_setEquation (fun r12 σ13 h gσ13 => ?_) Fr.rf h
        have fσ13 : Fr S_X7_solveSpan σ0 σ13 := fσ11.tr gσ13 (mkS_sub (by decide) (by decide))
        intro v14 ev14; replace h := h v14 ev14
        exact mf_X7_solveSpan_b103 hq ih fσ13 h
set_option maxHeartbeats 1000000 in
theorem mf_X7_solveSpan_l10 {Q Q' : Int → St → Prop} {σ0 : St} (hq : ∀ (r : Int) (σ1 : St), Q r σ1 → Fr S_X7_solveSpan σ0 σ1 → Q' r σ1) : ∀ (n : Nat) (x1 : Int) (x2 : Int) (x3 : Int) (x4 : Int) (σ : St), Fr S_X7_solveSpan σ0 σ → wp_X7_solveSpan_l10 Q n x1 x2 x3 x4 σ → wp_X7_solveSpan_l10 Q' n x1 x2 x3 x4 σ := by
  intro n
  induction n with
  | zero => intro _ _ _ _ _ _ h; exact h.elim
  | succ n ih =>
    intro x1 x2 x3 x4 σ f0 h
    unfold wp_X7_solveSpan_l10 at h ⊢
    refine ⟨fun hc => ?_, fun hc => ?_⟩
    · replace h := h.1 hc
      refine mf_J7_fill_53178_C_c48 (fun r2 σ3 h gσ3 => ?_) Fr.rf h
      have fσ3 : Fr S_X7_solveSpan σ0 σ3 := f0.tr gσ3 (mkS_sub (by decide) (by decide))
      exact mf_X7_solveSpan_l62 hq bigN _ _ _ _ _ _ fσ3 h
    · replace h := h.2 hc
      refine ⟨h.1, fun σ4 eσ4 => ?_⟩; replace h := h.2 σ4 eσ4; have fσ4 : Fr S_X7_solveSpan σ0 σ4 := by rw [eσ4]; exact f0.up rfl
      refine mf_X1_has (fun r5 σ6 h gσ6 => ?_) Fr.rf h
      have fσ6 : Fr S_X7_solveSpan σ0 σ6 := fσ4.tr gσ6 (mkS_sub (by decide) (by decide))
      refine ⟨fun hc => ?_, fun hc => ?_⟩
      · replace h := h.1 hc
        exact mf_X7_solveSpan_b42 hq ih fσ6 h
      · replace h := h.2 hc
        intro v7 ev7; replace h := h v7 ev7
        exact mf_X7_solveSpan_b42 hq ih fσ6 h
set_option maxHeartbeats 1000000 in
theorem mf_X7_solveSpan {Q Q' : Int → St → Prop} {σ0 : St} (hq : ∀ (r : Int) (σ1 : St), Q r σ1 → Fr S_X7_solveSpan σ0 σ1 → Q' r σ1) {x1 : Int} {σ : St} (f0 : Fr S_X7_solveSpan σ0 σ) (h : wp_X7_solveSpan x1 σ Q) : wp_X7_solveSpan x1 σ Q' := by
  unfold wp_X7_solveSpan at h ⊢
  intro v1 ev1; replace h := h v1 ev1
  exact mf_X7_solveSpan_l10 hq bigN _ _ _ _ _ f0 h
set_option maxHeartbeats 1000000 in
theorem mf_X7_sumOf_b43 {Q Q' : Int → St → Prop} {σ0 : St} (hq : ∀ (r : Int) (σ1 : St), Q r σ1 → Fr S_X7_sumOf σ0 σ1 → Q' r σ1) {x1 : Int} {σ : St} (f0 : Fr S_X7_sumOf σ0 σ) (h : wp_X7_sumOf_b43 Q x1 σ) : wp_X7_sumOf_b43 Q' x1 σ := by
  unfold wp_X7_sumOf_b43 at h ⊢
  refine mf_X1_has (fun r4 σ5 h gσ5 => ?_) Fr.rf h
  have fσ5 : Fr S_X7_sumOf σ0 σ5 := f0.tr gσ5 (mkS_sub (by decide) (by decide))
  refine ⟨fun hc => ?_, fun hc => ?_⟩
  · replace h := h.1 hc
    refine ⟨h.1, ?_⟩; replace h := h.2
    refine ⟨fun hc => ?_, fun hc => ?_⟩
    · replace h := h.1 hc
      refine ⟨h.1, ?_⟩; replace h := h.2
      exact hq _ _ h fσ5
    · replace h := h.2 hc
      exact hq _ _ h fσ5
  · replace h := h.2 hc
    exact hq _ _ h fσ5
set_option maxHeartbeats 1000000 in
theorem mf_X7_sumOf_l21 {Q Q' : Int → St → Prop} {σ0 : St} (hq : ∀ (r : Int) (σ1 : St), Q r σ1 → Fr S_X7_sumOf σ0 σ1 → Q' r σ1) : ∀ (n : Nat) (x1 : Int) (x2 : Int) (σ : St), Fr S_X7_sumOf σ0 σ → wp_X7_sumOf_l21 Q n x1 x2 σ → wp_X7_sumOf_l21 Q' n x1 x2 σ := by
  intro n
  induction n with
  | zero => intro _ _ _ _ h; exact h.elim
  | succ n ih =>
    intro x1 x2 σ f0 h
    unfold wp_X7_sumOf_l21 at h ⊢
    refine ⟨fun hc => ?_, fun hc => ?_⟩
    · replace h := h.1 hc
      exact mf_X7_sumOf_b43 hq f0 h
    · replace h := h.2 hc
      refine mf_X7_solveSpan (fun r6 σ7 h gσ7 => ?_) Fr.rf h
      have fσ7 : Fr S_X7_sumOf σ0 σ7 := f0.tr gσ7 (mkS_sub (by decide) (by decide))
      intro v8 ev8; replace h := h v8 ev8
      exact ih _ _ _ fσ7 h
set_option maxHeartbeats 1000000 in
theorem mf_X7_sumOf {Q Q' : Int → St → Prop} {σ0 : St} (hq : ∀ (r : Int) (σ1 : St), Q r σ1 → Fr S_X7_sumOf σ0 σ1 → Q' r σ1) {x1 : Int} {σ : St} (f0 : Fr S_X7_sumOf σ0 σ) (h : wp_X7_sumOf x1 σ Q) : wp_X7_sumOf x1 σ Q' := by
  unfold wp_X7_sumOf at h ⊢
  refine mf_X1_prepare (fun r1 σ2 h gσ2 => ?_) Fr.rf h
  have fσ2 : Fr S_X7_sumOf σ0 σ2 := f0.tr gσ2 (mkS_sub (by decide) (by decide))
  refine ⟨fun hc => ?_, fun hc => ?_⟩
  · replace h := h.1 hc
    exact mf_X7_sumOf_b43 hq fσ2 h
  · replace h := h.2 hc
    intro σ3 eσ3; replace h := h σ3 eσ3; have fσ3 : Fr S_X7_sumOf σ0 σ3 := by rw [eσ3]; exact fσ2.up rfl
    exact mf_X7_sumOf_l21 hq bigN _ _ _ fσ3 h
set_option maxHeartbeats 1000000 in
theorem mf_X11_sum {Q Q' : Int → St → Prop} {σ0 : St} (hq : ∀ (r : Int) (σ1 : St), Q r σ1 → Fr S_X11_sum σ0 σ1 → Q' r σ1) {x1 x2 x3 : Int} {σ : St} (f0 : Fr S_X11_sum σ0 σ) (h : wp_X11_sum x1 x2 x3 σ Q) : wp_X11_sum x1 x2 x3 σ Q' := by
  unfold wp_X11_sum at h ⊢
  refine mf_X11_itemOf (fun r1 σ2 h gσ2 => ?_) Fr.rf h
  have fσ2 : Fr S_X11_sum σ0 σ2 := f0.tr gσ2 (mkS_sub (by decide) (by decide))
  refine ⟨fun hc => ?_, fun hc => ?_⟩
  · replace h := h.1 hc
    refine mf_X7_sumOf (fun r3 σ4 h gσ4 => ?_) Fr.rf h
    have fσ4 : Fr S_X11_sum σ0 σ4 := fσ2.tr gσ4 (mkS_sub (by decide) (by decide))
    exact hq _ _ h fσ4
  · replace h := h.2 hc
    exact hq _ _ h fσ2
set_option maxHeartbeats 1000000 in
theorem mf_J7_fill_53178_C_c51_l5 {Q Q' : Int → St → Prop} {σ0 : St} (hq : ∀ (r : Int) (σ1 : St), Q r σ1 → Fr S_J7_fill_53178_C_c51 σ0 σ1 → Q' r σ1) : ∀ (n : Nat) (x1 : Int) (x2 : Int) (x3 : Int) (σ : St), Fr S_J7_fill_53178_C_c51 σ0 σ → wp_J7_fill_53178_C_c51_l5 Q n x1 x2 x3 σ → wp_J7_fill_53178_C_c51_l5 Q' n x1 x2 x3 σ := by
  intro n
  induction n with
  | zero => intro _ _ _ _ _ h; exact h.elim
  | succ n ih =>
    intro x1 x2 x3 σ f0 h
    unfold wp_J7_fill_53178_C_c51_l5 at h ⊢
    refine ⟨fun hc => ?_, fun hc => ?_⟩
    · replace h := h.1 hc
      exact hq _ _ h f0
    · replace h := h.2 hc
      refine ⟨h.1, fun σ1 eσ1 => ?_⟩; replace h := h.2 σ1 eσ1; have fσ1 : Fr S_J7_fill_53178_C_c51 σ0 σ1 := by rw [eσ1]; exact f0.up rfl
      intro v2 ev2; replace h := h v2 ev2
      exact ih _ _ _ _ fσ1 h
set_option maxHeartbeats 1000000 in
theorem mf_J7_fill_53178_C_c51 {Q Q' : Int → St → Prop} {σ0 : St} (hq : ∀ (r : Int) (σ1 : St), Q r σ1 → Fr S_J7_fill_53178_C_c51 σ0 σ1 → Q' r σ1) {x1 : Int} {σ : St} (f0 : Fr S_J7_fill_53178_C_c51 σ0 σ) (h : wp_J7_fill_53178_C_c51 x1 σ Q) : wp_J7_fill_53178_C_c51 x1 σ Q' := by
  unfold wp_J7_fill_53178_C_c51 at h ⊢
  exact mf_J7_fill_53178_C_c51_l5 hq bigN _ _ _ _ f0 h
set_option maxHeartbeats 1000000 in
theorem mf_X9_partValue {Q Q' : Int → St → Prop} {σ0 : St} (hq : ∀ (r : Int) (σ1 : St), Q r σ1 → Fr S_X9_partValue σ0 σ1 → Q' r σ1) {x1 : Int} {σ : St} (f0 : Fr S_X9_partValue σ0 σ) (h : wp_X9_partValue x1 σ Q) : wp_X9_partValue x1 σ Q' := by
  unfold wp_X9_partValue at h ⊢
  refine ⟨fun hc => ?_, fun hc => ?_⟩
  · replace h := h.1 hc
    refine ⟨h.1, ?_⟩; replace h := h.2
    exact hq _ _ h f0
  · replace h := h.2 hc
    exact hq _ _ h f0
set_option maxHeartbeats 1000000 in
theorem mf_X9_renewed_b105 {Q Q' : Int → St → Prop} {σ0 : St} (hq : ∀ (r : Int) (σ1 : St), Q r σ1 → Fr S_X9_renewed σ0 σ1 → Q' r σ1) {K17 K17' : Int → Int → Int → St → Prop} (hK17 : ∀ (x1 : Int) (x2 : Int) (x3 : Int) (σ : St), Fr S_X9_renewed σ0 σ → K17 x1 x2 x3 σ → K17' x1 x2 x3 σ) {x1 x2 x3 x4 : Int} {σ : St} (f0 : Fr S_X9_renewed σ0 σ) (h : wp_X9_renewed_b105 Q K17 x1 x2 x3 x4 σ) : wp_X9_renewed_b105 Q' K17' x1 x2 x3 x4 σ := by
  unfold wp_X9_renewed_b105 at h ⊢
  refine mf_X4_plus (fun r14 σ15 h gσ15 => ?_) Fr.rf h
  have fσ15 : Fr S_X9_renewed σ0 σ15 := f0.tr gσ15 (mkS_sub (by decide) (by decide))
  intro v16 ev16; replace h := h v16 ev16
  exact hK17 _ _ _ _ fσ15 h
set_option maxHeartbeats 1000000 in
theorem mf_X9_renewed_l17 {Q Q' : Int → St → Prop} {σ0 : St} (hq : ∀ (r : Int) (σ1 : St), Q r σ1 → Fr S_X9_renewed σ0 σ1 → Q' r σ1) : ∀ (n : Nat) (x1 : Int) (x2 : Int) (x3 : Int) (σ : St), Fr S_X9_renewed σ0 σ → wp_X9_renewed_l17 Q n x1 x2 x3 σ → wp_X9_renewed_l17 Q' n x1 x2 x3 σ := by
  intro n
  induction n with
  | zero => intro _ _ _ _ _ h; exact h.elim
  | succ n ih =>
    intro x1 x2 x3 σ f0 h
    unfold wp_X9_renewed_l17 at h ⊢
    refine mf_X0_caseEnd (fun r4 σ5 h gσ5 => ?_) Fr.rf h
    have fσ5 : Fr S_X9_renewed σ0 σ5 := f0.tr gσ5 (mkS_sub (by decide) (by decide))
    refine ⟨fun hc => ?_, fun hc => ?_⟩
    · replace h := h.1 hc
      exact hq _ _ h fσ5
    · replace h := h.2 hc
      refine ⟨h.1, ?_⟩; replace h := h.2
      refine ⟨h.1, ?_⟩; replace h := h.2
      refine ⟨h.1, ?_⟩; replace h := h.2
      refine mf_X9_partValue (fun r6 σ7 h gσ7 => ?_) Fr.rf h
      have fσ7 : Fr S_X9_renewed σ0 σ7 := fσ5.tr gσ7 (mkS_sub (by decide) (by decide))
      refine mf_X4_times (fun r8 σ9 h gσ9 => ?_) Fr.rf h
      have fσ9 : Fr S_X9_renewed σ0 σ9 := fσ7.tr gσ9 (mkS_sub (by decide) (by decide))
      refine ⟨h.1, ?_⟩; replace h := h.2
      refine ⟨fun hc => ?_, fun hc => ?_⟩
      · replace h := h.1 hc
        exact mf_X9_renewed_b105 hq ih fσ9 h
      · replace h := h.2 hc
        refine ⟨h.1, ?_⟩; replace h := h.2
        refine mf_X9_partValue (fun r10 σ11 h gσ11 => ?_) Fr.rf h
        have fσ11 : Fr S_X9_renewed σ0 σ11 := fσ9.tr gσ11 (mkS_sub (by decide) (by decide))
        refine mf_X4_times (fun r12 σ13 h gσ13 => ?_) Fr.rf h
        have fσ13 : Fr S_X9_renewed σ0 σ13 := fσ11.tr gσ13 (mkS_sub (by decide) (by decide))
        exact mf_X9_renewed_b105 hq ih fσ13 h
set_option maxHeartbeats 1000000 in
theorem mf_X9_renewed {Q Q' : Int → St → Prop} {σ0 : St} (hq : ∀ (r : Int) (σ1 : St), Q r σ1 → Fr S_X9_renewed σ0 σ1 → Q' r σ1) {x1 : Int} {σ : St} (f0 : Fr S_X9_renewed σ0 σ) (h : wp_X9_renewed x1 σ Q) : wp_X9_renewed x1 σ Q' := by
  unfold wp_X9_renewed at h ⊢
  intro v1 ev1; replace h := h v1 ev1
  refine mf_X0_caseStart (fun r2 σ3 h gσ3 => ?_) Fr.rf h
  have fσ3 : Fr S_X9_renewed σ0 σ3 := f0.tr gσ3 (mkS_sub (by decide) (by decide))
  exact mf_X9_renewed_l17 hq bigN _ _ _ _ fσ3 h
set_option maxHeartbeats 1000000 in
theorem mf_X9_changeAll_b49 {Q Q' : Int → St → Prop} {σ0 : St} (hq : ∀ (r : Int) (σ1 : St), Q r σ1 → Fr S_X9_changeAll σ0 σ1 → Q' r σ1) {K12 K12' : Int → Int → Int → St → Prop} (hK12 : ∀ (x1 : Int) (x2 : Int) (x3 : Int) (σ : St), Fr S_X9_changeAll σ0 σ → K12 x1 x2 x3 σ → K12' x1 x2 x3 σ) {x2 x3 s0 s1 : Int} {σ : St} (f0 : Fr S_X9_changeAll σ0 σ) (h : wp_X9_changeAll_b49 Q K12 x2 x3 s0 s1 σ) : wp_X9_changeAll_b49 Q' K12' x2 x3 s0 s1 σ := by
  unfold wp_X9_changeAll_b49 at h ⊢
  intro v7 ev7; replace h := h v7 ev7
  intro v8 ev8; replace h := h v8 ev8
  exact hK12 _ _ _ _ f0 h
set_option maxHeartbeats 1000000 in
theorem mf_X9_changeAll_l12 {Q Q' : Int → St → Prop} {σ0 : St} (hq : ∀ (r : Int) (σ1 : St), Q r σ1 → Fr S_X9_changeAll σ0 σ1 → Q' r σ1) : ∀ (n : Nat) (x1 : Int) (x2 : Int) (x3 : Int) (σ : St), Fr S_X9_changeAll σ0 σ → wp_X9_changeAll_l12 Q n x1 x2 x3 σ → wp_X9_changeAll_l12 Q' n x1 x2 x3 σ := by
  intro n
  induction n with
  | zero => intro _ _ _ _ _ h; exact h.elim
  | succ n ih =>
    intro x1 x2 x3 σ f0 h
    unfold wp_X9_changeAll_l12 at h ⊢
    refine ⟨fun hc => ?_, fun hc => ?_⟩
    · replace h := h.1 hc
      refine ⟨h.1, h.2.1, h.2.2.1, h.2.2.2.1, h.2.2.2.2.1, fun σ3 eσ3 => ?_⟩; replace h := h.2.2.2.2.2 σ3 eσ3; have fσ3 : Fr S_X9_changeAll σ0 σ3 := by rw [eσ3]; exact f0.cp (fun _ => rfl)
      exact ⟨h.1, hq _ _ h.2 fσ3⟩
    · replace h := h.2 hc
      refine mf_X9_renewed (fun r4 σ5 h gσ5 => ?_) Fr.rf h
      have fσ5 : Fr S_X9_changeAll σ0 σ5 := f0.tr gσ5 (mkS_sub (by decide) (by decide))
      refine ⟨h.1, fun σ6 eσ6 => ?_⟩; replace h := h.2 σ6 eσ6; have fσ6 : Fr S_X9_changeAll σ0 σ6 := by rw [eσ6]; exact fσ5.up rfl
      refine ⟨h.1, ?_⟩; replace h := h.2
      refine ⟨h.1, ?_⟩; replace h := h.2
      refine ⟨fun hc => ?_, fun hc => ?_⟩
      · replace h := h.1 hc
        exact mf_X9_changeAll_b49 hq ih fσ6 h
      · replace h := h.2 hc
        exact mf_X9_changeAll_b49 hq ih fσ6 h
set_option maxHeartbeats 1000000 in
theorem mf_X9_changeAll {Q Q' : Int → St → Prop} {σ0 : St} (hq : ∀ (r : Int) (σ1 : St), Q r σ1 → Fr S_X9_changeAll σ0 σ1 → Q' r σ1) {σ : St} (f0 : Fr S_X9_changeAll σ0 σ) (h : wp_X9_changeAll  σ Q) : wp_X9_changeAll  σ Q' := by
  unfold wp_X9_changeAll at h ⊢
  refine mf_X0_itemCount (fun r1 σ2 h gσ2 => ?_) Fr.rf h
  have fσ2 : Fr S_X9_changeAll σ0 σ2 := f0.tr gσ2 (mkS_sub (by decide) (by decide))
  exact mf_X9_changeAll_l12 hq bigN _ _ _ _ fσ2 h
set_option maxHeartbeats 1000000 in
theorem mf_X9_roundsTaken_b68 {Q Q' : Int → St → Prop} {σ0 : St} (hq : ∀ (r : Int) (σ1 : St), Q r σ1 → Fr S_X9_roundsTaken σ0 σ1 → Q' r σ1) {K41 K41' : Int → St → Prop} (hK41 : ∀ (x1 : Int) (σ : St), Fr S_X9_roundsTaken σ0 σ → K41 x1 σ → K41' x1 σ) {x1 : Int} {σ : St} (f0 : Fr S_X9_roundsTaken σ0 σ) (h : wp_X9_roundsTaken_b68 Q K41 x1 σ) : wp_X9_roundsTaken_b68 Q' K41' x1 σ := by
  unfold wp_X9_roundsTaken_b68 at h ⊢
  intro v10 ev10; replace h := h v10 ev10
  exact hK41 _ _ f0 h
set_option maxHeartbeats 1000000 in
theorem mf_X9_roundsTaken_l41 {Q Q' : Int → St → Prop} {σ0 : St} (hq : ∀ (r : Int) (σ1 : St), Q r σ1 → Fr S_X9_roundsTaken σ0 σ1 → Q' r σ1) : ∀ (n : Nat) (x1 : Int) (σ : St), Fr S_X9_roundsTaken σ0 σ → wp_X9_roundsTaken_l41 Q n x1 σ → wp_X9_roundsTaken_l41 Q' n x1 σ := by
  intro n
  induction n with
  | zero => intro _ _ _ h; exact h.elim
  | succ n ih =>
    intro x1 σ f0 h
    unfold wp_X9_roundsTaken_l41 at h ⊢
    refine ⟨fun hc => ?_, fun hc => ?_⟩
    · replace h := h.1 hc
      exact hq _ _ h f0
    · replace h := h.2 hc
      refine ⟨fun hc => ?_, fun hc => ?_⟩
      · replace h := h.1 hc
        exact hq _ _ h f0
      · replace h := h.2 hc
        refine mf_X9_changeAll (fun r7 σ8 h gσ8 => ?_) Fr.rf h
        have fσ8 : Fr S_X9_roundsTaken σ0 σ8 := f0.tr gσ8 (mkS_sub (by decide) (by decide))
        refine ⟨fun hc => ?_, fun hc => ?_⟩
        · replace h := h.1 hc
          exact mf_X9_roundsTaken_b68 hq ih fσ8 h
        · replace h := h.2 hc
          intro σ9 eσ9; replace h := h σ9 eσ9; have fσ9 : Fr S_X9_roundsTaken σ0 σ9 := by rw [eσ9]; exact fσ8.up rfl
          exact mf_X9_roundsTaken_b68 hq ih fσ9 h
set_option maxHeartbeats 1000000 in
theorem mf_X9_roundsTaken {Q Q' : Int → St → Prop} {σ0 : St} (hq : ∀ (r : Int) (σ1 : St), Q r σ1 → Fr S_X9_roundsTaken σ0 σ1 → Q' r σ1) {σ : St} (f0 : Fr S_X9_roundsTaken σ0 σ) (h : wp_X9_roundsTaken  σ Q) : wp_X9_roundsTaken  σ Q' := by
  unfold wp_X9_roundsTaken at h ⊢
  refine mf_X0_build (fun r1 σ2 h gσ2 => ?_) Fr.rf h
  have fσ2 : Fr S_X9_roundsTaken σ0 σ2 := f0.tr gσ2 (mkS_sub (by decide) (by decide))
  refine ⟨fun hc => ?_, fun hc => ?_⟩
  · replace h := h.1 hc
    exact hq _ _ h fσ2
  · replace h := h.2 hc
    intro σ3 eσ3; replace h := h σ3 eσ3; have fσ3 : Fr S_X9_roundsTaken σ0 σ3 := by rw [eσ3]; exact fσ2.up rfl
    intro σ4 eσ4; replace h := h σ4 eσ4; have fσ4 : Fr S_X9_roundsTaken σ0 σ4 := by rw [eσ4]; exact fσ3.up rfl
    refine mf_J7_fill_53178_C_c51 (fun r5 σ6 h gσ6 => ?_) Fr.rf h
    have fσ6 : Fr S_X9_roundsTaken σ0 σ6 := fσ4.tr gσ6 (mkS_sub (by decide) (by decide))
    exact mf_X9_roundsTaken_l41 hq bigN _ _ fσ6 h
set_option maxHeartbeats 1000000 in
theorem mf_X9_valueOf {Q Q' : Int → St → Prop} {σ0 : St} (hq : ∀ (r : Int) (σ1 : St), Q r σ1 → Fr S_X9_valueOf σ0 σ1 → Q' r σ1) {x1 : Int} {σ : St} (f0 : Fr S_X9_valueOf σ0 σ) (h : wp_X9_valueOf x1 σ Q) : wp_X9_valueOf x1 σ Q' := by
  unfold wp_X9_valueOf at h ⊢
  refine mf_X9_roundsTaken (fun r1 σ2 h gσ2 => ?_) Fr.rf h
  have fσ2 : Fr S_X9_valueOf σ0 σ2 := f0.tr gσ2 (mkS_sub (by decide) (by decide))
  refine ⟨fun hc => ?_, fun hc => ?_⟩
  · replace h := h.1 hc
    refine ⟨h.1, ?_⟩; replace h := h.2
    exact hq _ _ h fσ2
  · replace h := h.2 hc
    exact hq _ _ h fσ2
set_option maxHeartbeats 1000000 in
theorem mf_X11_value {Q Q' : Int → St → Prop} {σ0 : St} (hq : ∀ (r : Int) (σ1 : St), Q r σ1 → Fr S_X11_value σ0 σ1 → Q' r σ1) {x1 x2 x3 : Int} {σ : St} (f0 : Fr S_X11_value σ0 σ) (h : wp_X11_value x1 x2 x3 σ Q) : wp_X11_value x1 x2 x3 σ Q' := by
  unfold wp_X11_value at h ⊢
  refine mf_X11_itemOf (fun r1 σ2 h gσ2 => ?_) Fr.rf h
  have fσ2 : Fr S_X11_value σ0 σ2 := f0.tr gσ2 (mkS_sub (by decide) (by decide))
  refine ⟨fun hc => ?_, fun hc => ?_⟩
  · replace h := h.1 hc
    refine mf_X9_valueOf (fun r3 σ4 h gσ4 => ?_) Fr.rf h
    have fσ4 : Fr S_X11_value σ0 σ4 := fσ2.tr gσ4 (mkS_sub (by decide) (by decide))
    exact hq _ _ h fσ4
  · replace h := h.2 hc
    exact hq _ _ h fσ2
set_option maxHeartbeats 1000000 in
theorem mf_X11_rounds {Q Q' : Int → St → Prop} {σ0 : St} (hq : ∀ (r : Int) (σ1 : St), Q r σ1 → Fr S_X11_rounds σ0 σ1 → Q' r σ1) {σ : St} (f0 : Fr S_X11_rounds σ0 σ) (h : wp_X11_rounds  σ Q) : wp_X11_rounds  σ Q' := by
  unfold wp_X11_rounds at h ⊢
  refine mf_X9_roundsTaken (fun r1 σ2 h gσ2 => ?_) Fr.rf h
  have fσ2 : Fr S_X11_rounds σ0 σ2 := f0.tr gσ2 (mkS_sub (by decide) (by decide))
  exact hq _ _ h fσ2
set_option maxHeartbeats 1000000 in
theorem mf_X9_meetAll_b39 {Q Q' : Int → St → Prop} {σ0 : St} (hq : ∀ (r : Int) (σ1 : St), Q r σ1 → Fr S_X9_meetAll σ0 σ1 → Q' r σ1) {K2 K2' : Int → St → Prop} (hK2 : ∀ (x1 : Int) (σ : St), Fr S_X9_meetAll σ0 σ → K2 x1 σ → K2' x1 σ) {x1 s0 s1 : Int} {σ : St} (f0 : Fr S_X9_meetAll σ0 σ) (h : wp_X9_meetAll_b39 Q K2 x1 s0 s1 σ) : wp_X9_meetAll_b39 Q' K2' x1 s0 s1 σ := by
  unfold wp_X9_meetAll_b39 at h ⊢
  refine ⟨h.1, fun σ5 eσ5 => ?_⟩; replace h := h.2 σ5 eσ5; have fσ5 : Fr S_X9_meetAll σ0 σ5 := by rw [eσ5]; exact f0.up rfl
  intro v6 ev6; replace h := h v6 ev6
  exact hK2 _ _ fσ5 h
set_option maxHeartbeats 1000000 in
theorem mf_X9_meetAll_b34 {Q Q' : Int → St → Prop} {σ0 : St} (hq : ∀ (r : Int) (σ1 : St), Q r σ1 → Fr S_X9_meetAll σ0 σ1 → Q' r σ1) {K2 K2' : Int → St → Prop} (hK2 : ∀ (x1 : Int) (σ : St), Fr S_X9_meetAll σ0 σ → K2 x1 σ → K2' x1 σ) {x1 s0 : Int} {σ : St} (f0 : Fr S_X9_meetAll σ0 σ) (h : wp_X9_meetAll_b34 Q K2 x1 s0 σ) : wp_X9_meetAll_b34 Q' K2' x1 s0 σ := by
  unfold wp_X9_meetAll_b34 at h ⊢
  exact mf_X9_meetAll_b39 hq hK2 f0 h
set_option maxHeartbeats 1000000 in
theorem mf_X9_meetAll_b117 {Q Q' : Int → St → Prop} {σ0 : St} (hq : ∀ (r : Int) (σ1 : St), Q r σ1 → Fr S_X9_meetAll σ0 σ1 → Q' r σ1) {K79 K79' : Int → St → Prop} (hK79 : ∀ (x1 : Int) (σ : St), Fr S_X9_meetAll σ0 σ → K79 x1 σ → K79' x1 σ) {x1 : Int} {σ : St} (f0 : Fr S_X9_meetAll σ0 σ) (h : wp_X9_meetAll_b117 Q K79 x1 σ) : wp_X9_meetAll_b117 Q' K79' x1 σ := by
  unfold wp_X9_meetAll_b117 at h ⊢
  intro v8 ev8; replace h := h v8 ev8
  exact hK79 _ _ f0 h
set_option maxHeartbeats 1000000 in
theorem mf_X9_meetAll_l79 {Q Q' : Int → St → Prop} {σ0 : St} (hq : ∀ (r : Int) (σ1 : St), Q r σ1 → Fr S_X9_meetAll σ0 σ1 → Q' r σ1) : ∀ (n : Nat) (x1 : Int) (σ : St), Fr S_X9_meetAll σ0 σ → wp_X9_meetAll_l79 Q n x1 σ → wp_X9_meetAll_l79 Q' n x1 σ := by
  intro n
  induction n with
  | zero => intro _ _ _ h; exact h.elim
  | succ n ih =>
    intro x1 σ f0 h
    unfold wp_X9_meetAll_l79 at h ⊢
    refine ⟨fun hc => ?_, fun hc => ?_⟩
    · replace h := h.1 hc
      exact hq _ _ h f0
    · replace h := h.2 hc
      refine ⟨h.1, ?_⟩; replace h := h.2
      refine ⟨fun hc => ?_, fun hc => ?_⟩
      · replace h := h.1 hc
        exact mf_X9_meetAll_b117 hq ih f0 h
      · replace h := h.2 hc
        refine ⟨h.1, ?_⟩; replace h := h.2
        refine ⟨h.1, fun σ7 eσ7 => ?_⟩; replace h := h.2 σ7 eσ7; have fσ7 : Fr S_X9_meetAll σ0 σ7 := by rw [eσ7]; exact f0.up rfl
        exact mf_X9_meetAll_b117 hq ih fσ7 h
set_option maxHeartbeats 1000000 in
theorem mf_X9_meetAll_l48 {Q Q' : Int → St → Prop} {σ0 : St} (hq : ∀ (r : Int) (σ1 : St), Q r σ1 → Fr S_X9_meetAll σ0 σ1 → Q' r σ1) : ∀ (n : Nat) (x1 : Int) (σ : St), Fr S_X9_meetAll σ0 σ → wp_X9_meetAll_l48 Q n x1 σ → wp_X9_meetAll_l48 Q' n x1 σ := by
  intro n
  induction n with
  | zero => intro _ _ _ h; exact h.elim
  | succ n ih =>
    intro x1 σ f0 h
    unfold wp_X9_meetAll_l48 at h ⊢
    refine mf_X0_itemCount (fun r1 σ2 h gσ2 => ?_) Fr.rf h
    have fσ2 : Fr S_X9_meetAll σ0 σ2 := f0.tr gσ2 (mkS_sub (by decide) (by decide))
    refine ⟨fun hc => ?_, fun hc => ?_⟩
    · replace h := h.1 hc
      exact mf_X9_meetAll_l79 hq bigN _ _ fσ2 h
    · replace h := h.2 hc
      refine ⟨h.1, ?_⟩; replace h := h.2
      refine ⟨h.1, fun σ3 eσ3 => ?_⟩; replace h := h.2 σ3 eσ3; have fσ3 : Fr S_X9_meetAll σ0 σ3 := by rw [eσ3]; exact fσ2.up rfl
      intro v4 ev4; replace h := h v4 ev4
      exact ih _ _ fσ3 h
set_option maxHeartbeats 1000000 in
theorem mf_X9_meetAll_l2 {Q Q' : Int → St → Prop} {σ0 : St} (hq : ∀ (r : Int) (σ1 : St), Q r σ1 → Fr S_X9_meetAll σ0 σ1 → Q' r σ1) : ∀ (n : Nat) (x1 : Int) (σ : St), Fr S_X9_meetAll σ0 σ → wp_X9_meetAll_l2 Q n x1 σ → wp_X9_meetAll_l2 Q' n x1 σ := by
  intro n
  induction n with
  | zero => intro _ _ _ h; exact h.elim
  | succ n ih =>
    intro x1 σ f0 h
    unfold wp_X9_meetAll_l2 at h ⊢
    refine ⟨fun hc => ?_, fun hc => ?_⟩
    · replace h := h.1 hc
      exact mf_X9_meetAll_l48 hq bigN _ _ f0 h
    · replace h := h.2 hc
      refine ⟨fun hc => ?_, fun hc => ?_⟩
      · replace h := h.1 hc
        exact mf_X9_meetAll_b34 hq ih f0 h
      · replace h := h.2 hc
        refine ⟨fun hc => ?_, fun hc => ?_⟩
        · replace h := h.1 hc
          exact mf_X9_meetAll_b39 hq ih f0 h
        · replace h := h.2 hc
          exact mf_X9_meetAll_b34 hq ih f0 h
set_option maxHeartbeats 1000000 in
theorem mf_X9_meetAll {Q Q' : Int → St → Prop} {σ0 : St} (hq : ∀ (r : Int) (σ1 : St), Q r σ1 → Fr S_X9_meetAll σ0 σ1 → Q' r σ1) {σ : St} (f0 : Fr S_X9_meetAll σ0 σ) (h : wp_X9_meetAll  σ Q) : wp_X9_meetAll  σ Q' := by
  unfold wp_X9_meetAll at h ⊢
  exact mf_X9_meetAll_l2 hq bigN _ _ f0 h
set_option maxHeartbeats 1000000 in
theorem mf_X9_keep {Q Q' : Int → St → Prop} {σ0 : St} (hq : ∀ (r : Int) (σ1 : St), Q r σ1 → Fr S_X9_keep σ0 σ1 → Q' r σ1) {x0 x1 x2 x3 : Int} {σ : St} (f0 : Fr S_X9_keep σ0 σ) (h : wp_X9_keep x0 x1 x2 x3 σ Q) : wp_X9_keep x0 x1 x2 x3 σ Q' := by
  unfold wp_X9_keep at h ⊢
  refine ⟨fun hc => ?_, fun hc => ?_⟩
  · replace h := h.1 hc
    exact hq _ _ h f0
  · replace h := h.2 hc
    exact hq _ _ h f0
set_option maxHeartbeats 1000000 in
theorem mf_X9_lawsOfOne {Q Q' : Int → St → Prop} {σ0 : St} (hq : ∀ (r : Int) (σ1 : St), Q r σ1 → Fr S_X9_lawsOfOne σ0 σ1 → Q' r σ1) {x1 : Int} {σ : St} (f0 : Fr S_X9_lawsOfOne σ0 σ) (h : wp_X9_lawsOfOne x1 σ Q) : wp_X9_lawsOfOne x1 σ Q' := by
  unfold wp_X9_lawsOfOne at h ⊢
  intro v1 ev1; replace h := h v1 ev1
  intro v2 ev2; replace h := h v2 ev2
  refine mf_X4_plus (fun r3 σ4 h gσ4 => ?_) Fr.rf h
  have fσ4 : Fr S_X9_lawsOfOne σ0 σ4 := f0.tr gσ4 (mkS_sub (by decide) (by decide))
  refine mf_X9_keep (fun r5 σ6 h gσ6 => ?_) Fr.rf h
  have fσ6 : Fr S_X9_lawsOfOne σ0 σ6 := fσ4.tr gσ6 (mkS_sub (by decide) (by decide))
  refine mf_X4_times (fun r7 σ8 h gσ8 => ?_) Fr.rf h
  have fσ8 : Fr S_X9_lawsOfOne σ0 σ8 := fσ6.tr gσ8 (mkS_sub (by decide) (by decide))
  refine mf_X9_keep (fun r9 σ10 h gσ10 => ?_) Fr.rf h
  have fσ10 : Fr S_X9_lawsOfOne σ0 σ10 := fσ8.tr gσ10 (mkS_sub (by decide) (by decide))
  refine mf_X4_times (fun r11 σ12 h gσ12 => ?_) Fr.rf h
  have fσ12 : Fr S_X9_lawsOfOne σ0 σ12 := fσ10.tr gσ12 (mkS_sub (by decide) (by decide))
  refine mf_X9_keep (fun r13 σ14 h gσ14 => ?_) Fr.rf h
  have fσ14 : Fr S_X9_lawsOfOne σ0 σ14 := fσ12.tr gσ14 (mkS_sub (by decide) (by decide))
  refine mf_X4_times (fun r15 σ16 h gσ16 => ?_) Fr.rf h
  have fσ16 : Fr S_X9_lawsOfOne σ0 σ16 := fσ14.tr gσ16 (mkS_sub (by decide) (by decide))
  refine mf_X9_keep (fun r17 σ18 h gσ18 => ?_) Fr.rf h
  have fσ18 : Fr S_X9_lawsOfOne σ0 σ18 := fσ16.tr gσ18 (mkS_sub (by decide) (by decide))
  refine mf_X4_times (fun r19 σ20 h gσ20 => ?_) Fr.rf h
  have fσ20 : Fr S_X9_lawsOfOne σ0 σ20 := fσ18.tr gσ20 (mkS_sub (by decide) (by decide))
  refine mf_X9_keep (fun r21 σ22 h gσ22 => ?_) Fr.rf h
  have fσ22 : Fr S_X9_lawsOfOne σ0 σ22 := fσ20.tr gσ22 (mkS_sub (by decide) (by decide))
  refine mf_X4_plus (fun r23 σ24 h gσ24 => ?_) Fr.rf h
  have fσ24 : Fr S_X9_lawsOfOne σ0 σ24 := fσ22.tr gσ24 (mkS_sub (by decide) (by decide))
  refine mf_X9_keep (fun r25 σ26 h gσ26 => ?_) Fr.rf h
  have fσ26 : Fr S_X9_lawsOfOne σ0 σ26 := fσ24.tr gσ26 (mkS_sub (by decide) (by decide))
  exact hq _ _ h fσ26
set_option maxHeartbeats 1000000 in
theorem mf_X9_lawsOfMore_b246 {Q Q' : Int → St → Prop} {σ0 : St} (hq : ∀ (r : Int) (σ1 : St), Q r σ1 → Fr S_X9_lawsOfMore σ0 σ1 → Q' r σ1) {K29 K29' : Int → Int → Int → Int → St → Prop} (hK29 : ∀ (x1 : Int) (x2 : Int) (x3 : Int) (x4 : Int) (σ : St), Fr S_X9_lawsOfMore σ0 σ → K29 x1 x2 x3 x4 σ → K29' x1 x2 x3 x4 σ) {x1 x2 x3 x4 : Int} {σ : St} (f0 : Fr S_X9_lawsOfMore σ0 σ) (h : wp_X9_lawsOfMore_b246 Q K29 x1 x2 x3 x4 σ) : wp_X9_lawsOfMore_b246 Q' K29' x1 x2 x3 x4 σ := by
  unfold wp_X9_lawsOfMore_b246 at h ⊢
  intro v51 ev51; replace h := h v51 ev51
  exact hK29 _ _ _ _ _ f0 h
set_option maxHeartbeats 1000000 in
theorem mf_X9_lawsOfMore_l29 {Q Q' : Int → St → Prop} {σ0 : St} (hq : ∀ (r : Int) (σ1 : St), Q r σ1 → Fr S_X9_lawsOfMore σ0 σ1 → Q' r σ1) : ∀ (n : Nat) (x1 : Int) (x2 : Int) (x3 : Int) (x4 : Int) (σ : St), Fr S_X9_lawsOfMore σ0 σ → wp_X9_lawsOfMore_l29 Q n x1 x2 x3 x4 σ → wp_X9_lawsOfMore_l29 Q' n x1 x2 x3 x4 σ := by
  intro n
  induction n with
  | zero => intro _ _ _ _ _ _ h; exact h.elim
  | succ n ih =>
    intro x1 x2 x3 x4 σ f0 h
    unfold wp_X9_lawsOfMore_l29 at h ⊢
    refine ⟨fun hc => ?_, fun hc => ?_⟩
    · replace h := h.1 hc
      exact hq _ _ h f0
    · replace h := h.2 hc
      refine ⟨h.1, ?_⟩; replace h := h.2
      refine ⟨fun hc => ?_, fun hc => ?_⟩
      · replace h := h.1 hc
        exact mf_X9_lawsOfMore_b246 hq ih f0 h
      · replace h := h.2 hc
        refine mf_X4_plus (fun r7 σ8 h gσ8 => ?_) Fr.rf h
        have fσ8 : Fr S_X9_lawsOfMore σ0 σ8 := f0.tr gσ8 (mkS_sub (by decide) (by decide))
        refine mf_X4_plus (fun r9 σ10 h gσ10 => ?_) Fr.rf h
        have fσ10 : Fr S_X9_lawsOfMore σ0 σ10 := fσ8.tr gσ10 (mkS_sub (by decide) (by decide))
        refine mf_X4_plus (fun r11 σ12 h gσ12 => ?_) Fr.rf h
        have fσ12 : Fr S_X9_lawsOfMore σ0 σ12 := fσ10.tr gσ12 (mkS_sub (by decide) (by decide))
        refine mf_X4_plus (fun r13 σ14 h gσ14 => ?_) Fr.rf h
        have fσ14 : Fr S_X9_lawsOfMore σ0 σ14 := fσ12.tr gσ14 (mkS_sub (by decide) (by decide))
        refine mf_X9_keep (fun r15 σ16 h gσ16 => ?_) Fr.rf h
        have fσ16 : Fr S_X9_lawsOfMore σ0 σ16 := fσ14.tr gσ16 (mkS_sub (by decide) (by decide))
        refine mf_X4_times (fun r17 σ18 h gσ18 => ?_) Fr.rf h
        have fσ18 : Fr S_X9_lawsOfMore σ0 σ18 := fσ16.tr gσ18 (mkS_sub (by decide) (by decide))
        refine mf_X4_times (fun r19 σ20 h gσ20 => ?_) Fr.rf h
        have fσ20 : Fr S_X9_lawsOfMore σ0 σ20 := fσ18.tr gσ20 (mkS_sub (by decide) (by decide))
        refine mf_X4_times (fun r21 σ22 h gσ22 => ?_) Fr.rf h
        have fσ22 : Fr S_X9_lawsOfMore σ0 σ22 := fσ20.tr gσ22 (mkS_sub (by decide) (by decide))
        refine mf_X4_times (fun r23 σ24 h gσ24 => ?_) Fr.rf h
        have fσ24 : Fr S_X9_lawsOfMore σ0 σ24 := fσ22.tr gσ24 (mkS_sub (by decide) (by decide))
        refine mf_X9_keep (fun r25 σ26 h gσ26 => ?_) Fr.rf h
        have fσ26 : Fr S_X9_lawsOfMore σ0 σ26 := fσ24.tr gσ26 (mkS_sub (by decide) (by decide))
        refine mf_X4_times (fun r27 σ28 h gσ28 => ?_) Fr.rf h
        have fσ28 : Fr S_X9_lawsOfMore σ0 σ28 := fσ26.tr gσ28 (mkS_sub (by decide) (by decide))
        refine mf_X4_times (fun r29 σ30 h gσ30 => ?_) Fr.rf h
        have fσ30 : Fr S_X9_lawsOfMore σ0 σ30 := fσ28.tr gσ30 (mkS_sub (by decide) (by decide))
        refine mf_X4_plus (fun r31 σ32 h gσ32 => ?_) Fr.rf h
        have fσ32 : Fr S_X9_lawsOfMore σ0 σ32 := fσ30.tr gσ32 (mkS_sub (by decide) (by decide))
        refine mf_X4_plus (fun r33 σ34 h gσ34 => ?_) Fr.rf h
        have fσ34 : Fr S_X9_lawsOfMore σ0 σ34 := fσ32.tr gσ34 (mkS_sub (by decide) (by decide))
        refine mf_X4_times (fun r35 σ36 h gσ36 => ?_) Fr.rf h
        have fσ36 : Fr S_X9_lawsOfMore σ0 σ36 := fσ34.tr gσ36 (mkS_sub (by decide) (by decide))
        refine mf_X9_keep (fun r37 σ38 h gσ38 => ?_) Fr.rf h
        have fσ38 : Fr S_X9_lawsOfMore σ0 σ38 := fσ36.tr gσ38 (mkS_sub (by decide) (by decide))
        refine mf_X4_times (fun r39 σ40 h gσ40 => ?_) Fr.rf h
        have fσ40 : Fr S_X9_lawsOfMore σ0 σ40 := fσ38.tr gσ40 (mkS_sub (by decide) (by decide))
        refine mf_X4_times (fun r41 σ42 h gσ42 => ?_) Fr.rf h
        have fσ42 : Fr S_X9_lawsOfMore σ0 σ42 := fσ40.tr gσ42 (mkS_sub (by decide) (by decide))
        refine mf_X4_plus (fun r43 σ44 h gσ44 => ?_) Fr.rf h
        have fσ44 : Fr S_X9_lawsOfMore σ0 σ44 := fσ42.tr gσ44 (mkS_sub (by decide) (by decide))
        refine mf_X4_plus (fun r45 σ46 h gσ46 => ?_) Fr.rf h
        have fσ46 : Fr S_X9_lawsOfMore σ0 σ46 := fσ44.tr gσ46 (mkS_sub (by decide) (by decide))
        refine mf_X4_times (fun r47 σ48 h gσ48 => ?_) Fr.rf h
        have fσ48 : Fr S_X9_lawsOfMore σ0 σ48 := fσ46.tr gσ48 (mkS_sub (by decide) (by decide))
        refine mf_X9_keep (fun r49 σ50 h gσ50 => ?_) Fr.rf h
        have fσ50 : Fr S_X9_lawsOfMore σ0 σ50 := fσ48.tr gσ50 (mkS_sub (by decide) (by decide))
        exact mf_X9_lawsOfMore_b246 hq ih fσ50 h
set_option maxHeartbeats 1000000 in
theorem mf_X9_lawsOfMore {Q Q' : Int → St → Prop} {σ0 : St} (hq : ∀ (r : Int) (σ1 : St), Q r σ1 → Fr S_X9_lawsOfMore σ0 σ1 → Q' r σ1) {x1 x2 : Int} {σ : St} (f0 : Fr S_X9_lawsOfMore σ0 σ) (h : wp_X9_lawsOfMore x1 x2 σ Q) : wp_X9_lawsOfMore x1 x2 σ Q' := by
  unfold wp_X9_lawsOfMore at h ⊢
  refine mf_X4_plus (fun r1 σ2 h gσ2 => ?_) Fr.rf h
  have fσ2 : Fr S_X9_lawsOfMore σ0 σ2 := f0.tr gσ2 (mkS_sub (by decide) (by decide))
  refine mf_X4_plus (fun r3 σ4 h gσ4 => ?_) Fr.rf h
  have fσ4 : Fr S_X9_lawsOfMore σ0 σ4 := fσ2.tr gσ4 (mkS_sub (by decide) (by decide))
  refine mf_X9_keep (fun r5 σ6 h gσ6 => ?_) Fr.rf h
  have fσ6 : Fr S_X9_lawsOfMore σ0 σ6 := fσ4.tr gσ6 (mkS_sub (by decide) (by decide))
  exact mf_X9_lawsOfMore_l29 hq bigN _ _ _ _ _ fσ6 h
set_option maxHeartbeats 1000000 in
theorem mf_X9_lawsKept_b81 {Q Q' : Int → St → Prop} {σ0 : St} (hq : ∀ (r : Int) (σ1 : St), Q r σ1 → Fr S_X9_lawsKept σ0 σ1 → Q' r σ1) {K22 K22' : Int → Int → St → Prop} (hK22 : ∀ (x1 : Int) (x2 : Int) (σ : St), Fr S_X9_lawsKept σ0 σ → K22 x1 x2 σ → K22' x1 x2 σ) {K52 K52' : Int → Int → Int → St → Prop} (hK52 : ∀ (x1 : Int) (x2 : Int) (x3 : Int) (σ : St), Fr S_X9_lawsKept σ0 σ → K52 x1 x2 x3 σ → K52' x1 x2 x3 σ) {x1 x2 x3 : Int} {σ : St} (f0 : Fr S_X9_lawsKept σ0 σ) (h : wp_X9_lawsKept_b81 Q K22 K52 x1 x2 x3 σ) : wp_X9_lawsKept_b81 Q' K22' K52' x1 x2 x3 σ := by
  unfold wp_X9_lawsKept_b81 at h ⊢
  intro v12 ev12; replace h := h v12 ev12
  exact hK52 _ _ _ _ f0 h
set_option maxHeartbeats 1000000 in
theorem mf_X9_lawsKept_b87 {Q Q' : Int → St → Prop} {σ0 : St} (hq : ∀ (r : Int) (σ1 : St), Q r σ1 → Fr S_X9_lawsKept σ0 σ1 → Q' r σ1) {K22 K22' : Int → Int → St → Prop} (hK22 : ∀ (x1 : Int) (x2 : Int) (σ : St), Fr S_X9_lawsKept σ0 σ → K22 x1 x2 σ → K22' x1 x2 σ) {x1 x2 : Int} {σ : St} (f0 : Fr S_X9_lawsKept σ0 σ) (h : wp_X9_lawsKept_b87 Q K22 x1 x2 σ) : wp_X9_lawsKept_b87 Q' K22' x1 x2 σ := by
  unfold wp_X9_lawsKept_b87 at h ⊢
  intro v8 ev8; replace h := h v8 ev8
  exact hK22 _ _ _ f0 h
set_option maxHeartbeats 1000000 in
theorem mf_X9_lawsKept_l52 {Q Q' : Int → St → Prop} {σ0 : St} (hq : ∀ (r : Int) (σ1 : St), Q r σ1 → Fr S_X9_lawsKept σ0 σ1 → Q' r σ1) {K22 K22' : Int → Int → St → Prop} (hK22 : ∀ (x1 : Int) (x2 : Int) (σ : St), Fr S_X9_lawsKept σ0 σ → K22 x1 x2 σ → K22' x1 x2 σ) : ∀ (n : Nat) (x1 : Int) (x2 : Int) (x3 : Int) (σ : St), Fr S_X9_lawsKept σ0 σ → wp_X9_lawsKept_l52 Q K22 n x1 x2 x3 σ → wp_X9_lawsKept_l52 Q' K22' n x1 x2 x3 σ := by
  intro n
  induction n with
  | zero => intro _ _ _ _ _ h; exact h.elim
  | succ n ih =>
    intro x1 x2 x3 σ f0 h
    unfold wp_X9_lawsKept_l52 at h ⊢
    refine ⟨fun hc => ?_, fun hc => ?_⟩
    · replace h := h.1 hc
      exact mf_X9_lawsKept_b87 hq hK22 f0 h
    · replace h := h.2 hc
      refine ⟨h.1, ?_⟩; replace h := h.2
      refine ⟨fun hc => ?_, fun hc => ?_⟩
      · replace h := h.1 hc
        exact mf_X9_lawsKept_b81 hq hK22 ih f0 h
      · replace h := h.2 hc
        refine mf_X9_lawsOfMore (fun r9 σ10 h gσ10 => ?_) Fr.rf h
        have fσ10 : Fr S_X9_lawsKept σ0 σ10 := f0.tr gσ10 (mkS_sub (by decide) (by decide))
        intro v11 ev11; replace h := h v11 ev11
        exact mf_X9_lawsKept_b81 hq hK22 ih fσ10 h
set_option maxHeartbeats 1000000 in
theorem mf_X9_lawsKept_l22 {Q Q' : Int → St → Prop} {σ0 : St} (hq : ∀ (r : Int) (σ1 : St), Q r σ1 → Fr S_X9_lawsKept σ0 σ1 → Q' r σ1) : ∀ (n : Nat) (x1 : Int) (x2 : Int) (σ : St), Fr S_X9_lawsKept σ0 σ → wp_X9_lawsKept_l22 Q n x1 x2 σ → wp_X9_lawsKept_l22 Q' n x1 x2 σ := by
  intro n
  induction n with
  | zero => intro _ _ _ _ h; exact h.elim
  | succ n ih =>
    intro x1 x2 σ f0 h
    unfold wp_X9_lawsKept_l22 at h ⊢
    refine ⟨fun hc => ?_, fun hc => ?_⟩
    · replace h := h.1 hc
      exact hq _ _ h f0
    · replace h := h.2 hc
      refine ⟨h.1, ?_⟩; replace h := h.2
      refine ⟨fun hc => ?_, fun hc => ?_⟩
      · replace h := h.1 hc
        exact mf_X9_lawsKept_b87 hq ih f0 h
      · replace h := h.2 hc
        refine mf_X9_lawsOfOne (fun r5 σ6 h gσ6 => ?_) Fr.rf h
        have fσ6 : Fr S_X9_lawsKept σ0 σ6 := f0.tr gσ6 (mkS_sub (by decide) (by decide))
        intro v7 ev7; replace h := h v7 ev7
        exact mf_X9_lawsKept_l52 hq ih bigN _ _ _ _ fσ6 h
set_option maxHeartbeats 1000000 in
theorem mf_X9_lawsKept {Q Q' : Int → St → Prop} {σ0 : St} (hq : ∀ (r : Int) (σ1 : St), Q r σ1 → Fr S_X9_lawsKept σ0 σ1 → Q' r σ1) {σ : St} (f0 : Fr S_X9_lawsKept σ0 σ) (h : wp_X9_lawsKept  σ Q) : wp_X9_lawsKept  σ Q' := by
  unfold wp_X9_lawsKept at h ⊢
  refine mf_X9_roundsTaken (fun r1 σ2 h gσ2 => ?_) Fr.rf h
  have fσ2 : Fr S_X9_lawsKept σ0 σ2 := f0.tr gσ2 (mkS_sub (by decide) (by decide))
  refine ⟨fun hc => ?_, fun hc => ?_⟩
  · replace h := h.1 hc
    refine mf_X9_meetAll (fun r3 σ4 h gσ4 => ?_) Fr.rf h
    have fσ4 : Fr S_X9_lawsKept σ0 σ4 := fσ2.tr gσ4 (mkS_sub (by decide) (by decide))
    exact mf_X9_lawsKept_l22 hq bigN _ _ _ fσ4 h
  · replace h := h.2 hc
    exact hq _ _ h fσ2
set_option maxHeartbeats 1000000 in
theorem mf_X11_laws {Q Q' : Int → St → Prop} {σ0 : St} (hq : ∀ (r : Int) (σ1 : St), Q r σ1 → Fr S_X11_laws σ0 σ1 → Q' r σ1) {σ : St} (f0 : Fr S_X11_laws σ0 σ) (h : wp_X11_laws  σ Q) : wp_X11_laws  σ Q' := by
  unfold wp_X11_laws at h ⊢
  refine mf_X9_lawsKept (fun r1 σ2 h gσ2 => ?_) Fr.rf h
  have fσ2 : Fr S_X11_laws σ0 σ2 := f0.tr gσ2 (mkS_sub (by decide) (by decide))
  exact hq _ _ h fσ2
set_option maxHeartbeats 1000000 in
theorem mf_X1_fullCases_b38 {Q Q' : Int → St → Prop} {σ0 : St} (hq : ∀ (r : Int) (σ1 : St), Q r σ1 → Fr S_X1_fullCases σ0 σ1 → Q' r σ1) {K15 K15' : Int → Int → Int → St → Prop} (hK15 : ∀ (x1 : Int) (x2 : Int) (x3 : Int) (σ : St), Fr S_X1_fullCases σ0 σ → K15 x1 x2 x3 σ → K15' x1 x2 x3 σ) {x1 x2 x3 : Int} {σ : St} (f0 : Fr S_X1_fullCases σ0 σ) (h : wp_X1_fullCases_b38 Q K15 x1 x2 x3 σ) : wp_X1_fullCases_b38 Q' K15' x1 x2 x3 σ := by
  unfold wp_X1_fullCases_b38 at h ⊢
  intro v10 ev10; replace h := h v10 ev10
  exact hK15 _ _ _ _ f0 h
set_option maxHeartbeats 1000000 in
theorem mf_X1_fullCases_l15 {Q Q' : Int → St → Prop} {σ0 : St} (hq : ∀ (r : Int) (σ1 : St), Q r σ1 → Fr S_X1_fullCases σ0 σ1 → Q' r σ1) : ∀ (n : Nat) (x1 : Int) (x2 : Int) (x3 : Int) (σ : St), Fr S_X1_fullCases σ0 σ → wp_X1_fullCases_l15 Q n x1 x2 x3 σ → wp_X1_fullCases_l15 Q' n x1 x2 x3 σ := by
  intro n
  induction n with
  | zero => intro _ _ _ _ _ h; exact h.elim
  | succ n ih =>
    intro x1 x2 x3 σ f0 h
    unfold wp_X1_fullCases_l15 at h ⊢
    refine mf_X0_caseEnd (fun r5 σ6 h gσ6 => ?_) Fr.rf h
    have fσ6 : Fr S_X1_fullCases σ0 σ6 := f0.tr gσ6 (mkS_sub (by decide) (by decide))
    refine ⟨fun hc => ?_, fun hc => ?_⟩
    · replace h := h.1 hc
      exact hq _ _ h fσ6
    · replace h := h.2 hc
      refine mf_X1_isFull (fun r7 σ8 h gσ8 => ?_) Fr.rf h
      have fσ8 : Fr S_X1_fullCases σ0 σ8 := fσ6.tr gσ8 (mkS_sub (by decide) (by decide))
      refine ⟨fun hc => ?_, fun hc => ?_⟩
      · replace h := h.1 hc
        exact mf_X1_fullCases_b38 hq ih fσ8 h
      · replace h := h.2 hc
        intro v9 ev9; replace h := h v9 ev9
        exact mf_X1_fullCases_b38 hq ih fσ8 h
set_option maxHeartbeats 1000000 in
theorem mf_X1_fullCases {Q Q' : Int → St → Prop} {σ0 : St} (hq : ∀ (r : Int) (σ1 : St), Q r σ1 → Fr S_X1_fullCases σ0 σ1 → Q' r σ1) {x1 : Int} {σ : St} (f0 : Fr S_X1_fullCases σ0 σ) (h : wp_X1_fullCases x1 σ Q) : wp_X1_fullCases x1 σ Q' := by
  unfold wp_X1_fullCases at h ⊢
  refine mf_X1_prepare (fun r1 σ2 h gσ2 => ?_) Fr.rf h
  have fσ2 : Fr S_X1_fullCases σ0 σ2 := f0.tr gσ2 (mkS_sub (by decide) (by decide))
  refine mf_X0_caseStart (fun r3 σ4 h gσ4 => ?_) Fr.rf h
  have fσ4 : Fr S_X1_fullCases σ0 σ4 := fσ2.tr gσ4 (mkS_sub (by decide) (by decide))
  exact mf_X1_fullCases_l15 hq bigN _ _ _ _ fσ4 h
set_option maxHeartbeats 1000000 in
theorem mf_X1_casesAround_b56 {Q Q' : Int → St → Prop} {σ0 : St} (hq : ∀ (r : Int) (σ1 : St), Q r σ1 → Fr S_X1_casesAround σ0 σ1 → Q' r σ1) {K8 K8' : Int → Int → Int → St → Prop} (hK8 : ∀ (x1 : Int) (x2 : Int) (x3 : Int) (σ : St), Fr S_X1_casesAround σ0 σ → K8 x1 x2 x3 σ → K8' x1 x2 x3 σ) {x1 x2 x3 : Int} {σ : St} (f0 : Fr S_X1_casesAround σ0 σ) (h : wp_X1_casesAround_b56 Q K8 x1 x2 x3 σ) : wp_X1_casesAround_b56 Q' K8' x1 x2 x3 σ := by
  unfold wp_X1_casesAround_b56 at h ⊢
  intro v6 ev6; replace h := h v6 ev6
  exact hK8 _ _ _ _ f0 h
set_option maxHeartbeats 1000000 in
theorem mf_X1_casesAround_b45 {Q Q' : Int → St → Prop} {σ0 : St} (hq : ∀ (r : Int) (σ1 : St), Q r σ1 → Fr S_X1_casesAround σ0 σ1 → Q' r σ1) {K8 K8' : Int → Int → Int → St → Prop} (hK8 : ∀ (x1 : Int) (x2 : Int) (x3 : Int) (σ : St), Fr S_X1_casesAround σ0 σ → K8 x1 x2 x3 σ → K8' x1 x2 x3 σ) {x1 x2 x3 : Int} {σ : St} (f0 : Fr S_X1_casesAround σ0 σ) (h : wp_X1_casesAround_b45 Q K8 x1 x2 x3 σ) : wp_X1_casesAround_b45 Q' K8' x1 x2 x3 σ := by
  unfold wp_X1_casesAround_b45 at h ⊢
  refine mf_X1_isFull (fun r3 σ4 h gσ4 => ?_) Fr.rf h
  have fσ4 : Fr S_X1_casesAround σ0 σ4 := f0.tr gσ4 (mkS_sub (by decide) (by decide))
  refine ⟨fun hc => ?_, fun hc => ?_⟩
  · replace h := h.1 hc
    exact mf_X1_casesAround_b56 hq hK8 fσ4 h
  · replace h := h.2 hc
    intro v5 ev5; replace h := h v5 ev5
    exact mf_X1_casesAround_b56 hq hK8 fσ4 h
set_option maxHeartbeats 1000000 in
theorem mf_X1_casesAround_l8 {Q Q' : Int → St → Prop} {σ0 : St} (hq : ∀ (r : Int) (σ1 : St), Q r σ1 → Fr S_X1_casesAround σ0 σ1 → Q' r σ1) : ∀ (n : Nat) (x1 : Int) (x2 : Int) (x3 : Int) (σ : St), Fr S_X1_casesAround σ0 σ → wp_X1_casesAround_l8 Q n x1 x2 x3 σ → wp_X1_casesAround_l8 Q' n x1 x2 x3 σ := by
  intro n
  induction n with
  | zero => intro _ _ _ _ _ h; exact h.elim
  | succ n ih =>
    intro x1 x2 x3 σ f0 h
    unfold wp_X1_casesAround_l8 at h ⊢
    refine ⟨fun hc => ?_, fun hc => ?_⟩
    · replace h := h.1 hc
      exact hq _ _ h f0
    · replace h := h.2 hc
      refine ⟨h.1, ?_⟩; replace h := h.2
      refine ⟨fun hc => ?_, fun hc => ?_⟩
      · replace h := h.1 hc
        exact mf_X1_casesAround_b45 hq ih f0 h
      · replace h := h.2 hc
        refine ⟨h.1, ?_⟩; replace h := h.2
        refine ⟨fun hc => ?_, fun hc => ?_⟩
        · replace h := h.1 hc
          exact mf_X1_casesAround_b56 hq ih f0 h
        · replace h := h.2 hc
          exact mf_X1_casesAround_b45 hq ih f0 h
set_option maxHeartbeats 1000000 in
theorem mf_X1_casesAround {Q Q' : Int → St → Prop} {σ0 : St} (hq : ∀ (r : Int) (σ1 : St), Q r σ1 → Fr S_X1_casesAround σ0 σ1 → Q' r σ1) {x1 : Int} {σ : St} (f0 : Fr S_X1_casesAround σ0 σ) (h : wp_X1_casesAround x1 σ Q) : wp_X1_casesAround x1 σ Q' := by
  unfold wp_X1_casesAround at h ⊢
  refine mf_X1_prepare (fun r1 σ2 h gσ2 => ?_) Fr.rf h
  have fσ2 : Fr S_X1_casesAround σ0 σ2 := f0.tr gσ2 (mkS_sub (by decide) (by decide))
  exact mf_X1_casesAround_l8 hq bigN _ _ _ _ fσ2 h
set_option maxHeartbeats 1000000 in
theorem mf_X11_cases {Q Q' : Int → St → Prop} {σ0 : St} (hq : ∀ (r : Int) (σ1 : St), Q r σ1 → Fr S_X11_cases σ0 σ1 → Q' r σ1) {x1 x2 x3 x4 : Int} {σ : St} (f0 : Fr S_X11_cases σ0 σ) (h : wp_X11_cases x1 x2 x3 x4 σ Q) : wp_X11_cases x1 x2 x3 x4 σ Q' := by
  unfold wp_X11_cases at h ⊢
  refine mf_X11_itemOf (fun r1 σ2 h gσ2 => ?_) Fr.rf h
  have fσ2 : Fr S_X11_cases σ0 σ2 := f0.tr gσ2 (mkS_sub (by decide) (by decide))
  refine ⟨fun hc => ?_, fun hc => ?_⟩
  · replace h := h.1 hc
    refine ⟨fun hs0 => ?_, fun hs1 => ?_, fun hs2 => ?_, fun hs3 => ?_⟩
    · replace h := h.1 hs0
      refine mf_X0_caseEnd (fun r3 σ4 h gσ4 => ?_) Fr.rf h
      have fσ4 : Fr S_X11_cases σ0 σ4 := fσ2.tr gσ4 (mkS_sub (by decide) (by decide))
      refine mf_X0_caseStart (fun r5 σ6 h gσ6 => ?_) Fr.rf h
      have fσ6 : Fr S_X11_cases σ0 σ6 := fσ4.tr gσ6 (mkS_sub (by decide) (by decide))
      exact hq _ _ h fσ6
    · replace h := h.2.1 hs1
      refine mf_X1_fullCases (fun r7 σ8 h gσ8 => ?_) Fr.rf h
      have fσ8 : Fr S_X11_cases σ0 σ8 := fσ2.tr gσ8 (mkS_sub (by decide) (by decide))
      exact hq _ _ h fσ8
    · replace h := h.2.2.1 hs2
      refine mf_X1_casesAround (fun r9 σ10 h gσ10 => ?_) Fr.rf h
      have fσ10 : Fr S_X11_cases σ0 σ10 := fσ2.tr gσ10 (mkS_sub (by decide) (by decide))
      exact hq _ _ h fσ10
    · replace h := h.2.2.2 hs3
      exact hq _ _ h fσ2
  · replace h := h.2 hc
    exact hq _ _ h fσ2
set_option maxHeartbeats 1000000 in
theorem mf_X1_putInOrder_b62 {Q Q' : Int → St → Prop} {σ0 : St} (hq : ∀ (r : Int) (σ1 : St), Q r σ1 → Fr S_X1_putInOrder σ0 σ1 → Q' r σ1) {K10 K10' : Int → Int → Int → Int → St → Prop} (hK10 : ∀ (x1 : Int) (x2 : Int) (x3 : Int) (x4 : Int) (σ : St), Fr S_X1_putInOrder σ0 σ → K10 x1 x2 x3 x4 σ → K10' x1 x2 x3 x4 σ) {x1 x2 x3 x4 : Int} {σ : St} (f0 : Fr S_X1_putInOrder σ0 σ) (h : wp_X1_putInOrder_b62 Q K10 x1 x2 x3 x4 σ) : wp_X1_putInOrder_b62 Q' K10' x1 x2 x3 x4 σ := by
  unfold wp_X1_putInOrder_b62 at h ⊢
  intro v5 ev5; replace h := h v5 ev5
  exact hK10 _ _ _ _ _ f0 h
set_option maxHeartbeats 1000000 in
theorem mf_X1_putInOrder_l74 {Q Q' : Int → St → Prop} {σ0 : St} (hq : ∀ (r : Int) (σ1 : St), Q r σ1 → Fr S_X1_putInOrder σ0 σ1 → Q' r σ1) : ∀ (n : Nat) (x1 : Int) (x2 : Int) (x4 : Int) (σ : St), Fr S_X1_putInOrder σ0 σ → wp_X1_putInOrder_l74 Q n x1 x2 x4 σ → wp_X1_putInOrder_l74 Q' n x1 x2 x4 σ := by
  intro n
  induction n with
  | zero => intro _ _ _ _ _ h; exact h.elim
  | succ n ih =>
    intro x1 x2 x4 σ f0 h
    unfold wp_X1_putInOrder_l74 at h ⊢
    refine ⟨fun hc => ?_, fun hc => ?_⟩
    · replace h := h.1 hc
      refine ⟨h.1, fun σ6 eσ6 => ?_⟩; replace h := h.2 σ6 eσ6; have fσ6 : Fr S_X1_putInOrder σ0 σ6 := by rw [eσ6]; exact f0.up rfl
      intro σ7 eσ7; replace h := h σ7 eσ7; have fσ7 : Fr S_X1_putInOrder σ0 σ7 := by rw [eσ7]; exact fσ6.up rfl
      exact hq _ _ h fσ7
    · replace h := h.2 hc
      refine ⟨h.1, ?_⟩; replace h := h.2
      refine ⟨h.1, fun σ8 eσ8 => ?_⟩; replace h := h.2 σ8 eσ8; have fσ8 : Fr S_X1_putInOrder σ0 σ8 := by rw [eσ8]; exact f0.up rfl
      intro v9 ev9; replace h := h v9 ev9
      exact ih _ _ _ _ fσ8 h
set_option maxHeartbeats 1000000 in
theorem mf_X1_putInOrder_b68 {Q Q' : Int → St → Prop} {σ0 : St} (hq : ∀ (r : Int) (σ1 : St), Q r σ1 → Fr S_X1_putInOrder σ0 σ1 → Q' r σ1) {x1 x2 : Int} {σ : St} (f0 : Fr S_X1_putInOrder σ0 σ) (h : wp_X1_putInOrder_b68 Q x1 x2 σ) : wp_X1_putInOrder_b68 Q' x1 x2 σ := by
  unfold wp_X1_putInOrder_b68 at h ⊢
  intro v4 ev4; replace h := h v4 ev4
  exact mf_X1_putInOrder_l74 hq bigN _ _ _ _ f0 h
set_option maxHeartbeats 1000000 in
theorem mf_X1_putInOrder_l10 {Q Q' : Int → St → Prop} {σ0 : St} (hq : ∀ (r : Int) (σ1 : St), Q r σ1 → Fr S_X1_putInOrder σ0 σ1 → Q' r σ1) : ∀ (n : Nat) (x1 : Int) (x2 : Int) (x3 : Int) (x4 : Int) (σ : St), Fr S_X1_putInOrder σ0 σ → wp_X1_putInOrder_l10 Q n x1 x2 x3 x4 σ → wp_X1_putInOrder_l10 Q' n x1 x2 x3 x4 σ := by
  intro n
  induction n with
  | zero => intro _ _ _ _ _ _ h; exact h.elim
  | succ n ih =>
    intro x1 x2 x3 x4 σ f0 h
    unfold wp_X1_putInOrder_l10 at h ⊢
    refine ⟨fun hc => ?_, fun hc => ?_⟩
    · replace h := h.1 hc
      exact mf_X1_putInOrder_b68 hq f0 h
    · replace h := h.2 hc
      refine ⟨fun hc => ?_, fun hc => ?_⟩
      · replace h := h.1 hc
        exact mf_X1_putInOrder_b68 hq f0 h
      · replace h := h.2 hc
        intro v2 ev2; replace h := h v2 ev2
        refine ⟨h.1, ?_⟩; replace h := h.2
        refine ⟨h.1, ?_⟩; replace h := h.2
        refine ⟨h.1, ?_⟩; replace h := h.2
        refine ⟨fun hc => ?_, fun hc => ?_⟩
        · replace h := h.1 hc
          exact mf_X1_putInOrder_b62 hq ih f0 h
        · replace h := h.2 hc
          intro v3 ev3; replace h := h v3 ev3
          exact mf_X1_putInOrder_b62 hq ih f0 h
set_option maxHeartbeats 1000000 in
theorem mf_X1_putInOrder {Q Q' : Int → St → Prop} {σ0 : St} (hq : ∀ (r : Int) (σ1 : St), Q r σ1 → Fr S_X1_putInOrder σ0 σ1 → Q' r σ1) {x1 : Int} {σ : St} (f0 : Fr S_X1_putInOrder σ0 σ) (h : wp_X1_putInOrder x1 σ Q) : wp_X1_putInOrder x1 σ Q' := by
  unfold wp_X1_putInOrder at h ⊢
  intro v1 ev1; replace h := h v1 ev1
  exact mf_X1_putInOrder_l10 hq bigN _ _ _ _ _ f0 h
set_option maxHeartbeats 1000000 in
theorem mf_X1_itemInOrder_b47 {Q Q' : Int → St → Prop} {σ0 : St} (hq : ∀ (r : Int) (σ1 : St), Q r σ1 → Fr S_X1_itemInOrder σ0 σ1 → Q' r σ1) {K23 K23' : Int → Int → St → Prop} (hK23 : ∀ (x1 : Int) (x2 : Int) (σ : St), Fr S_X1_itemInOrder σ0 σ → K23 x1 x2 σ → K23' x1 x2 σ) {x1 x2 : Int} {σ : St} (f0 : Fr S_X1_itemInOrder σ0 σ) (h : wp_X1_itemInOrder_b47 Q K23 x1 x2 σ) : wp_X1_itemInOrder_b47 Q' K23' x1 x2 σ := by
  unfold wp_X1_itemInOrder_b47 at h ⊢
  intro v11 ev11; replace h := h v11 ev11
  exact hK23 _ _ _ f0 h
set_option maxHeartbeats 1000000 in
theorem mf_X1_itemInOrder_b65 {Q Q' : Int → St → Prop} {σ0 : St} (hq : ∀ (r : Int) (σ1 : St), Q r σ1 → Fr S_X1_itemInOrder σ0 σ1 → Q' r σ1) {σ : St} (f0 : Fr S_X1_itemInOrder σ0 σ) (h : wp_X1_itemInOrder_b65 Q  σ) : wp_X1_itemInOrder_b65 Q'  σ := by
  unfold wp_X1_itemInOrder_b65 at h ⊢
  exact hq _ _ h f0
set_option maxHeartbeats 1000000 in
theorem mf_X1_itemInOrder_b53 {Q Q' : Int → St → Prop} {σ0 : St} (hq : ∀ (r : Int) (σ1 : St), Q r σ1 → Fr S_X1_itemInOrder σ0 σ1 → Q' r σ1) {x1 : Int} {σ : St} (f0 : Fr S_X1_itemInOrder σ0 σ) (h : wp_X1_itemInOrder_b53 Q x1 σ) : wp_X1_itemInOrder_b53 Q' x1 σ := by
  unfold wp_X1_itemInOrder_b53 at h ⊢
  refine ⟨fun hc => ?_, fun hc => ?_⟩
  · replace h := h.1 hc
    exact mf_X1_itemInOrder_b65 hq f0 h
  · replace h := h.2 hc
    refine ⟨fun hc => ?_, fun hc => ?_⟩
    · replace h := h.1 hc
      refine ⟨h.1, ?_⟩; replace h := h.2
      exact hq _ _ h f0
    · replace h := h.2 hc
      exact mf_X1_itemInOrder_b65 hq f0 h
set_option maxHeartbeats 1000000 in
theorem mf_X1_itemInOrder_l23 {Q Q' : Int → St → Prop} {σ0 : St} (hq : ∀ (r : Int) (σ1 : St), Q r σ1 → Fr S_X1_itemInOrder σ0 σ1 → Q' r σ1) : ∀ (n : Nat) (x1 : Int) (x2 : Int) (σ : St), Fr S_X1_itemInOrder σ0 σ → wp_X1_itemInOrder_l23 Q n x1 x2 σ → wp_X1_itemInOrder_l23 Q' n x1 x2 σ := by
  intro n
  induction n with
  | zero => intro _ _ _ _ h; exact h.elim
  | succ n ih =>
    intro x1 x2 σ f0 h
    unfold wp_X1_itemInOrder_l23 at h ⊢
    refine mf_X0_itemCount (fun r5 σ6 h gσ6 => ?_) Fr.rf h
    have fσ6 : Fr S_X1_itemInOrder σ0 σ6 := f0.tr gσ6 (mkS_sub (by decide) (by decide))
    refine ⟨fun hc => ?_, fun hc => ?_⟩
    · replace h := h.1 hc
      exact mf_X1_itemInOrder_b53 hq fσ6 h
    · replace h := h.2 hc
      refine mf_X1_has (fun r7 σ8 h gσ8 => ?_) Fr.rf h
      have fσ8 : Fr S_X1_itemInOrder σ0 σ8 := fσ6.tr gσ8 (mkS_sub (by decide) (by decide))
      refine ⟨fun hc => ?_, fun hc => ?_⟩
      · replace h := h.1 hc
        exact mf_X1_itemInOrder_b47 hq ih fσ8 h
      · replace h := h.2 hc
        refine mf_X1_putInOrder (fun r9 σ10 h gσ10 => ?_) Fr.rf h
        have fσ10 : Fr S_X1_itemInOrder σ0 σ10 := fσ8.tr gσ10 (mkS_sub (by decide) (by decide))
        exact mf_X1_itemInOrder_b47 hq ih fσ10 h
set_option maxHeartbeats 1000000 in
theorem mf_X1_itemInOrder {Q Q' : Int → St → Prop} {σ0 : St} (hq : ∀ (r : Int) (σ1 : St), Q r σ1 → Fr S_X1_itemInOrder σ0 σ1 → Q' r σ1) {x1 : Int} {σ : St} (f0 : Fr S_X1_itemInOrder σ0 σ) (h : wp_X1_itemInOrder x1 σ Q) : wp_X1_itemInOrder x1 σ Q' := by
  unfold wp_X1_itemInOrder at h ⊢
  refine mf_X1_prepare (fun r1 σ2 h gσ2 => ?_) Fr.rf h
  have fσ2 : Fr S_X1_itemInOrder σ0 σ2 := f0.tr gσ2 (mkS_sub (by decide) (by decide))
  refine ⟨fun hc => ?_, fun hc => ?_⟩
  · replace h := h.1 hc
    exact mf_X1_itemInOrder_b53 hq fσ2 h
  · replace h := h.2 hc
    intro σ3 eσ3; replace h := h σ3 eσ3; have fσ3 : Fr S_X1_itemInOrder σ0 σ3 := by rw [eσ3]; exact fσ2.up rfl
    intro σ4 eσ4; replace h := h σ4 eσ4; have fσ4 : Fr S_X1_itemInOrder σ0 σ4 := by rw [eσ4]; exact fσ3.up rfl
    exact mf_X1_itemInOrder_l23 hq bigN _ _ _ fσ4 h
set_option maxHeartbeats 1000000 in
theorem mf_X0_beginOf {Q Q' : Int → St → Prop} {σ0 : St} (hq : ∀ (r : Int) (σ1 : St), Q r σ1 → Fr S_X0_beginOf σ0 σ1 → Q' r σ1) {x1 : Int} {σ : St} (f0 : Fr S_X0_beginOf σ0 σ) (h : wp_X0_beginOf x1 σ Q) : wp_X0_beginOf x1 σ Q' := by
  unfold wp_X0_beginOf at h ⊢
  refine ⟨h.1, ?_⟩; replace h := h.2
  exact hq _ _ h f0
set_option maxHeartbeats 1000000 in
theorem mf_X0_finishOf {Q Q' : Int → St → Prop} {σ0 : St} (hq : ∀ (r : Int) (σ1 : St), Q r σ1 → Fr S_X0_finishOf σ0 σ1 → Q' r σ1) {x1 : Int} {σ : St} (f0 : Fr S_X0_finishOf σ0 σ) (h : wp_X0_finishOf x1 σ Q) : wp_X0_finishOf x1 σ Q' := by
  unfold wp_X0_finishOf at h ⊢
  refine ⟨h.1, ?_⟩; replace h := h.2
  exact hq _ _ h f0
set_option maxHeartbeats 1000000 in
theorem mf_X11_settled {Q Q' : Int → St → Prop} {σ0 : St} (hq : ∀ (r : Int) (σ1 : St), Q r σ1 → Fr S_X11_settled σ0 σ1 → Q' r σ1) {x1 x2 : Int} {σ : St} (f0 : Fr S_X11_settled σ0 σ) (h : wp_X11_settled x1 x2 σ Q) : wp_X11_settled x1 x2 σ Q' := by
  unfold wp_X11_settled at h ⊢
  refine ⟨fun hc => ?_, fun hc => ?_⟩
  · replace h := h.1 hc
    exact hq _ _ h f0
  · replace h := h.2 hc
    refine ⟨fun hc => ?_, fun hc => ?_⟩
    · replace h := h.1 hc
      exact hq _ _ h f0
    · replace h := h.2 hc
      refine ⟨fun hc => ?_, fun hc => ?_⟩
      · replace h := h.1 hc
        refine mf_X1_itemInOrder (fun r1 σ2 h gσ2 => ?_) Fr.rf h
        have fσ2 : Fr S_X11_settled σ0 σ2 := f0.tr gσ2 (mkS_sub (by decide) (by decide))
        refine ⟨fun hc => ?_, fun hc => ?_⟩
        · replace h := h.1 hc
          refine ⟨fun hs0 => ?_, fun hs1 => ?_, fun hs2 => ?_, fun hs3 => ?_⟩
          · replace h := h.1 hs0
            exact hq _ _ h fσ2
          · replace h := h.2.1 hs1
            refine mf_X0_beginOf (fun r3 σ4 h gσ4 => ?_) Fr.rf h
            have fσ4 : Fr S_X11_settled σ0 σ4 := fσ2.tr gσ4 (mkS_sub (by decide) (by decide))
            exact hq _ _ h fσ4
          · replace h := h.2.2.1 hs2
            refine mf_X0_finishOf (fun r5 σ6 h gσ6 => ?_) Fr.rf h
            have fσ6 : Fr S_X11_settled σ0 σ6 := fσ2.tr gσ6 (mkS_sub (by decide) (by decide))
            exact hq _ _ h fσ6
          · replace h := h.2.2.2 hs3
            refine mf_X1_lowestOf (fun r7 σ8 h gσ8 => ?_) Fr.rf h
            have fσ8 : Fr S_X11_settled σ0 σ8 := fσ2.tr gσ8 (mkS_sub (by decide) (by decide))
            exact hq _ _ h fσ8
        · replace h := h.2 hc
          exact hq _ _ h fσ2
      · replace h := h.2 hc
        exact hq _ _ h f0
set_option maxHeartbeats 1000000 in
theorem mf_X11_isPlace_b14 {Q Q' : Int → St → Prop} {σ0 : St} (hq : ∀ (r : Int) (σ1 : St), Q r σ1 → Fr S_X11_isPlace σ0 σ1 → Q' r σ1) {σ : St} (f0 : Fr S_X11_isPlace σ0 σ) (h : wp_X11_isPlace_b14 Q  σ) : wp_X11_isPlace_b14 Q'  σ := by
  unfold wp_X11_isPlace_b14 at h ⊢
  exact hq _ _ h f0
set_option maxHeartbeats 1000000 in
theorem mf_X11_isPlace {Q Q' : Int → St → Prop} {σ0 : St} (hq : ∀ (r : Int) (σ1 : St), Q r σ1 → Fr S_X11_isPlace σ0 σ1 → Q' r σ1) {x0 : Int} {σ : St} (f0 : Fr S_X11_isPlace σ0 σ) (h : wp_X11_isPlace x0 σ Q) : wp_X11_isPlace x0 σ Q' := by
  unfold wp_X11_isPlace at h ⊢
  refine ⟨fun hc => ?_, fun hc => ?_⟩
  · replace h := h.1 hc
    exact mf_X11_isPlace_b14 hq f0 h
  · replace h := h.2 hc
    refine ⟨fun hc => ?_, fun hc => ?_⟩
    · replace h := h.1 hc
      exact mf_X11_isPlace_b14 hq f0 h
    · replace h := h.2 hc
      exact hq _ _ h f0
set_option maxHeartbeats 1000000 in
theorem mf_X0_isInside_b34 {Q Q' : Int → St → Prop} {σ0 : St} (hq : ∀ (r : Int) (σ1 : St), Q r σ1 → Fr S_X0_isInside σ0 σ1 → Q' r σ1) {σ : St} (f0 : Fr S_X0_isInside σ0 σ) (h : wp_X0_isInside_b34 Q  σ) : wp_X0_isInside_b34 Q'  σ := by
  unfold wp_X0_isInside_b34 at h ⊢
  exact hq _ _ h f0
set_option maxHeartbeats 1000000 in
theorem mf_X0_isInside {Q Q' : Int → St → Prop} {σ0 : St} (hq : ∀ (r : Int) (σ1 : St), Q r σ1 → Fr S_X0_isInside σ0 σ1 → Q' r σ1) {x1 x2 : Int} {σ : St} (f0 : Fr S_X0_isInside σ0 σ) (h : wp_X0_isInside x1 x2 σ Q) : wp_X0_isInside x1 x2 σ Q' := by
  unfold wp_X0_isInside at h ⊢
  refine ⟨h.1, ?_⟩; replace h := h.2
  refine ⟨h.1, ?_⟩; replace h := h.2
  refine ⟨fun hc => ?_, fun hc => ?_⟩
  · replace h := h.1 hc
    exact mf_X0_isInside_b34 hq f0 h
  · replace h := h.2 hc
    refine ⟨h.1, ?_⟩; replace h := h.2
    refine ⟨h.1, ?_⟩; replace h := h.2
    refine ⟨fun hc => ?_, fun hc => ?_⟩
    · replace h := h.1 hc
      exact mf_X0_isInside_b34 hq f0 h
    · replace h := h.2 hc
      exact hq _ _ h f0
set_option maxHeartbeats 1000000 in
theorem mf_X3_caseOfRule_l9 {Q Q' : Int → St → Prop} {σ0 : St} (hq : ∀ (r : Int) (σ1 : St), Q r σ1 → Fr S_X3_caseOfRule σ0 σ1 → Q' r σ1) : ∀ (n : Nat) (x1 : Int) (x2 : Int) (x3 : Int) (σ : St), Fr S_X3_caseOfRule σ0 σ → wp_X3_caseOfRule_l9 Q n x1 x2 x3 σ → wp_X3_caseOfRule_l9 Q' n x1 x2 x3 σ := by
  intro n
  induction n with
  | zero => intro _ _ _ _ _ h; exact h.elim
  | succ n ih =>
    intro x1 x2 x3 σ f0 h
    unfold wp_X3_caseOfRule_l9 at h ⊢
    refine mf_X0_caseEnd (fun r3 σ4 h gσ4 => ?_) Fr.rf h
    have fσ4 : Fr S_X3_caseOfRule σ0 σ4 := f0.tr gσ4 (mkS_sub (by decide) (by decide))
    refine ⟨fun hc => ?_, fun hc => ?_⟩
    · replace h := h.1 hc
      exact hq _ _ h fσ4
    · replace h := h.2 hc
      refine ⟨h.1, ?_⟩; replace h := h.2
      refine ⟨fun hc => ?_, fun hc => ?_⟩
      · replace h := h.1 hc
        intro v5 ev5; replace h := h v5 ev5
        exact ih _ _ _ _ fσ4 h
      · replace h := h.2 hc
        exact hq _ _ h fσ4
set_option maxHeartbeats 1000000 in
theorem mf_X3_caseOfRule {Q Q' : Int → St → Prop} {σ0 : St} (hq : ∀ (r : Int) (σ1 : St), Q r σ1 → Fr S_X3_caseOfRule σ0 σ1 → Q' r σ1) {x1 x2 : Int} {σ : St} (f0 : Fr S_X3_caseOfRule σ0 σ) (h : wp_X3_caseOfRule x1 x2 σ Q) : wp_X3_caseOfRule x1 x2 σ Q' := by
  unfold wp_X3_caseOfRule at h ⊢
  refine mf_X0_caseStart (fun r1 σ2 h gσ2 => ?_) Fr.rf h
  have fσ2 : Fr S_X3_caseOfRule σ0 σ2 := f0.tr gσ2 (mkS_sub (by decide) (by decide))
  exact mf_X3_caseOfRule_l9 hq bigN _ _ _ _ fσ2 h
set_option maxHeartbeats 1000000 in
theorem mf_X3_isSmaller_b138 {Q Q' : Int → St → Prop} {σ0 : St} (hq : ∀ (r : Int) (σ1 : St), Q r σ1 → Fr S_X3_isSmaller σ0 σ1 → Q' r σ1) {σ : St} (f0 : Fr S_X3_isSmaller σ0 σ) (h : wp_X3_isSmaller_b138 Q  σ) : wp_X3_isSmaller_b138 Q'  σ := by
  unfold wp_X3_isSmaller_b138 at h ⊢
  exact hq _ _ h f0
set_option maxHeartbeats 1000000 in
theorem mf_X3_isSmaller_b95 {Q Q' : Int → St → Prop} {σ0 : St} (hq : ∀ (r : Int) (σ1 : St), Q r σ1 → Fr S_X3_isSmaller σ0 σ1 → Q' r σ1) {x2 x4 x6 : Int} {σ : St} (f0 : Fr S_X3_isSmaller σ0 σ) (h : wp_X3_isSmaller_b95 Q x2 x4 x6 σ) : wp_X3_isSmaller_b95 Q' x2 x4 x6 σ := by
  unfold wp_X3_isSmaller_b95 at h ⊢
  refine ⟨fun hc => ?_, fun hc => ?_⟩
  · replace h := h.1 hc
    exact mf_X3_isSmaller_b138 hq f0 h
  · replace h := h.2 hc
    refine ⟨h.1, ?_⟩; replace h := h.2
    refine ⟨h.1, ?_⟩; replace h := h.2
    refine ⟨fun hc => ?_, fun hc => ?_⟩
    · replace h := h.1 hc
      exact mf_X3_isSmaller_b138 hq f0 h
    · replace h := h.2 hc
      exact hq _ _ h f0
set_option maxHeartbeats 1000000 in
theorem mf_X3_isSmaller {Q Q' : Int → St → Prop} {σ0 : St} (hq : ∀ (r : Int) (σ1 : St), Q r σ1 → Fr S_X3_isSmaller σ0 σ1 → Q' r σ1) {x1 x2 x3 x4 : Int} {σ : St} (f0 : Fr S_X3_isSmaller σ0 σ) (h : wp_X3_isSmaller x1 x2 x3 x4 σ Q) : wp_X3_isSmaller x1 x2 x3 x4 σ Q' := by
  unfold wp_X3_isSmaller at h ⊢
  refine ⟨fun hc => ?_, fun hc => ?_⟩
  · replace h := h.1 hc
    refine ⟨h.1, ?_⟩; replace h := h.2
    intro v1 ev1; replace h := h v1 ev1
    refine ⟨h.1, ?_⟩; replace h := h.2
    intro v2 ev2; replace h := h v2 ev2
    refine ⟨fun hc => ?_, fun hc => ?_⟩
    · replace h := h.1 hc
      exact mf_X3_isSmaller_b95 hq f0 h
    · replace h := h.2 hc
      refine ⟨fun hc => ?_, fun hc => ?_⟩
      · replace h := h.1 hc
        exact mf_X3_isSmaller_b95 hq f0 h
      · replace h := h.2 hc
        refine ⟨h.1, ?_⟩; replace h := h.2
        refine ⟨h.1, ?_⟩; replace h := h.2
        refine ⟨fun hc => ?_, fun hc => ?_⟩
        · replace h := h.1 hc
          exact hq _ _ h f0
        · replace h := h.2 hc
          exact hq _ _ h f0
  · replace h := h.2 hc
    refine ⟨fun hc => ?_, fun hc => ?_⟩
    · replace h := h.1 hc
      exact hq _ _ h f0
    · replace h := h.2 hc
      exact hq _ _ h f0
set_option maxHeartbeats 1000000 in
theorem mf_X3_putInBase_l129 {Q Q' : Int → St → Prop} {σ0 : St} (hq : ∀ (r : Int) (σ1 : St), Q r σ1 → Fr S_X3_putInBase σ0 σ1 → Q' r σ1) : ∀ (n : Nat) (x1 : Int) (x2 : Int) (x3 : Int) (x4 : Int) (x5 : Int) (x6 : Int) (x7 : Int) (x8 : Int) (σ : St), Fr S_X3_putInBase σ0 σ → wp_X3_putInBase_l129 Q n x1 x2 x3 x4 x5 x6 x7 x8 σ → wp_X3_putInBase_l129 Q' n x1 x2 x3 x4 x5 x6 x7 x8 σ := by
  intro n
  induction n with
  | zero => intro _ _ _ _ _ _ _ _ _ _ h; exact h.elim
  | succ n ih =>
    intro x1 x2 x3 x4 x5 x6 x7 x8 σ f0 h
    unfold wp_X3_putInBase_l129 at h ⊢
    refine ⟨fun hc => ?_, fun hc => ?_⟩
    · replace h := h.1 hc
      refine ⟨h.1, fun σ8 eσ8 => ?_⟩; replace h := h.2 σ8 eσ8; have fσ8 : Fr S_X3_putInBase σ0 σ8 := by rw [eσ8]; exact f0.up rfl
      refine ⟨h.1, fun σ9 eσ9 => ?_⟩; replace h := h.2 σ9 eσ9; have fσ9 : Fr S_X3_putInBase σ0 σ9 := by rw [eσ9]; exact fσ8.up rfl
      refine ⟨h.1, fun σ10 eσ10 => ?_⟩; replace h := h.2 σ10 eσ10; have fσ10 : Fr S_X3_putInBase σ0 σ10 := by rw [eσ10]; exact fσ9.up rfl
      refine ⟨h.1, fun σ11 eσ11 => ?_⟩; replace h := h.2 σ11 eσ11; have fσ11 : Fr S_X3_putInBase σ0 σ11 := by rw [eσ11]; exact fσ10.up rfl
      exact hq _ _ h fσ11
    · replace h := h.2 hc
      refine ⟨h.1, ?_⟩; replace h := h.2
      refine ⟨h.1, fun σ12 eσ12 => ?_⟩; replace h := h.2 σ12 eσ12; have fσ12 : Fr S_X3_putInBase σ0 σ12 := by rw [eσ12]; exact f0.up rfl
      refine ⟨h.1, ?_⟩; replace h := h.2
      refine ⟨h.1, fun σ13 eσ13 => ?_⟩; replace h := h.2 σ13 eσ13; have fσ13 : Fr S_X3_putInBase σ0 σ13 := by rw [eσ13]; exact fσ12.up rfl
      refine ⟨h.1, ?_⟩; replace h := h.2
      refine ⟨h.1, fun σ14 eσ14 => ?_⟩; replace h := h.2 σ14 eσ14; have fσ14 : Fr S_X3_putInBase σ0 σ14 := by rw [eσ14]; exact fσ13.up rfl
      intro v15 ev15; replace h := h v15 ev15
      exact ih _ _ _ _ _ _ _ _ _ fσ14 h
set_option maxHeartbeats 1000000 in
theorem mf_X3_putInBase_b97 {Q Q' : Int → St → Prop} {σ0 : St} (hq : ∀ (r : Int) (σ1 : St), Q r σ1 → Fr S_X3_putInBase σ0 σ1 → Q' r σ1) {x1 x2 x3 x4 x5 x6 : Int} {σ : St} (f0 : Fr S_X3_putInBase σ0 σ) (h : wp_X3_putInBase_b97 Q x1 x2 x3 x4 x5 x6 σ) : wp_X3_putInBase_b97 Q' x1 x2 x3 x4 x5 x6 σ := by
  unfold wp_X3_putInBase_b97 at h ⊢
  refine ⟨fun hc => ?_, fun hc => ?_⟩
  · replace h := h.1 hc
    refine ⟨h.1, ?_⟩; replace h := h.2
    intro v7 ev7; replace h := h v7 ev7
    exact mf_X3_putInBase_l129 hq bigN _ _ _ _ _ _ _ _ _ f0 h
  · replace h := h.2 hc
    exact hq _ _ h f0
set_option maxHeartbeats 1000000 in
theorem mf_X3_putInBase_l43 {Q Q' : Int → St → Prop} {σ0 : St} (hq : ∀ (r : Int) (σ1 : St), Q r σ1 → Fr S_X3_putInBase σ0 σ1 → Q' r σ1) : ∀ (n : Nat) (x1 : Int) (x2 : Int) (x3 : Int) (x4 : Int) (x5 : Int) (x6 : Int) (σ : St), Fr S_X3_putInBase σ0 σ → wp_X3_putInBase_l43 Q n x1 x2 x3 x4 x5 x6 σ → wp_X3_putInBase_l43 Q' n x1 x2 x3 x4 x5 x6 σ := by
  intro n
  induction n with
  | zero => intro _ _ _ _ _ _ _ _ h; exact h.elim
  | succ n ih =>
    intro x1 x2 x3 x4 x5 x6 σ f0 h
    unfold wp_X3_putInBase_l43 at h ⊢
    refine ⟨fun hc => ?_, fun hc => ?_⟩
    · replace h := h.1 hc
      exact mf_X3_putInBase_b97 hq f0 h
    · replace h := h.2 hc
      refine ⟨h.1, ?_⟩; replace h := h.2
      refine ⟨fun hc => ?_, fun hc => ?_⟩
      · replace h := h.1 hc
        exact mf_X3_putInBase_b97 hq f0 h
      · replace h := h.2 hc
        refine ⟨h.1, ?_⟩; replace h := h.2
        refine ⟨h.1, ?_⟩; replace h := h.2
        refine mf_X3_isSmaller (fun r4 σ5 h gσ5 => ?_) Fr.rf h
        have fσ5 : Fr S_X3_putInBase σ0 σ5 := f0.tr gσ5 (mkS_sub (by decide) (by decide))
        refine ⟨fun hc => ?_, fun hc => ?_⟩
        · replace h := h.1 hc
          exact mf_X3_putInBase_b97 hq fσ5 h
        · replace h := h.2 hc
          intro v6 ev6; replace h := h v6 ev6
          exact ih _ _ _ _ _ _ _ fσ5 h
set_option maxHeartbeats 1000000 in
theorem mf_X3_putInBase_l17 {Q Q' : Int → St → Prop} {σ0 : St} (hq : ∀ (r : Int) (σ1 : St), Q r σ1 → Fr S_X3_putInBase σ0 σ1 → Q' r σ1) : ∀ (n : Nat) (x1 : Int) (x2 : Int) (x3 : Int) (x4 : Int) (x5 : Int) (x6 : Int) (σ : St), Fr S_X3_putInBase σ0 σ → wp_X3_putInBase_l17 Q n x1 x2 x3 x4 x5 x6 σ → wp_X3_putInBase_l17 Q' n x1 x2 x3 x4 x5 x6 σ := by
  intro n
  induction n with
  | zero => intro _ _ _ _ _ _ _ _ h; exact h.elim
  | succ n ih =>
    intro x1 x2 x3 x4 x5 x6 σ f0 h
    unfold wp_X3_putInBase_l17 at h ⊢
    refine ⟨fun hc => ?_, fun hc => ?_⟩
    · replace h := h.1 hc
      exact mf_X3_putInBase_l43 hq bigN _ _ _ _ _ _ _ f0 h
    · replace h := h.2 hc
      refine ⟨h.1, ?_⟩; replace h := h.2
      refine ⟨fun hc => ?_, fun hc => ?_⟩
      · replace h := h.1 hc
        exact mf_X3_putInBase_l43 hq bigN _ _ _ _ _ _ _ f0 h
      · replace h := h.2 hc
        intro v3 ev3; replace h := h v3 ev3
        exact ih _ _ _ _ _ _ _ f0 h
set_option maxHeartbeats 1000000 in
theorem mf_X3_putInBase {Q Q' : Int → St → Prop} {σ0 : St} (hq : ∀ (r : Int) (σ1 : St), Q r σ1 → Fr S_X3_putInBase σ0 σ1 → Q' r σ1) {x1 x2 x3 x4 : Int} {σ : St} (f0 : Fr S_X3_putInBase σ0 σ) (h : wp_X3_putInBase x1 x2 x3 x4 σ Q) : wp_X3_putInBase x1 x2 x3 x4 σ Q' := by
  unfold wp_X3_putInBase at h ⊢
  intro v1 ev1; replace h := h v1 ev1
  refine ⟨h.1, ?_⟩; replace h := h.2
  intro v2 ev2; replace h := h v2 ev2
  exact mf_X3_putInBase_l17 hq bigN _ _ _ _ _ _ _ f0 h
set_option maxHeartbeats 1000000 in
theorem mf_X3_gatherPairs_b179 {Q Q' : Int → St → Prop} {σ0 : St} (hq : ∀ (r : Int) (σ1 : St), Q r σ1 → Fr S_X3_gatherPairs σ0 σ1 → Q' r σ1) {K77 K77' : Int → Int → Int → Int → Int → Int → Int → Int → St → Prop} (hK77 : ∀ (x1 : Int) (x2 : Int) (x3 : Int) (x4 : Int) (x5 : Int) (x6 : Int) (x7 : Int) (x8 : Int) (σ : St), Fr S_X3_gatherPairs σ0 σ → K77 x1 x2 x3 x4 x5 x6 x7 x8 σ → K77' x1 x2 x3 x4 x5 x6 x7 x8 σ) {x1 x2 x3 x4 x5 x6 x7 x8 : Int} {σ : St} (f0 : Fr S_X3_gatherPairs σ0 σ) (h : wp_X3_gatherPairs_b179 Q K77 x1 x2 x3 x4 x5 x6 x7 x8 σ) : wp_X3_gatherPairs_b179 Q' K77' x1 x2 x3 x4 x5 x6 x7 x8 σ := by
  unfold wp_X3_gatherPairs_b179 at h ⊢
  intro v4 ev4; replace h := h v4 ev4
  exact hK77 _ _ _ _ _ _ _ _ _ f0 h
set_option maxHeartbeats 1000000 in
theorem mf_X3_gatherPairs_b146 {Q Q' : Int → St → Prop} {σ0 : St} (hq : ∀ (r : Int) (σ1 : St), Q r σ1 → Fr S_X3_gatherPairs σ0 σ1 → Q' r σ1) {K77 K77' : Int → Int → Int → Int → Int → Int → Int → Int → St → Prop} (hK77 : ∀ (x1 : Int) (x2 : Int) (x3 : Int) (x4 : Int) (x5 : Int) (x6 : Int) (x7 : Int) (x8 : Int) (σ : St), Fr S_X3_gatherPairs σ0 σ → K77 x1 x2 x3 x4 x5 x6 x7 x8 σ → K77' x1 x2 x3 x4 x5 x6 x7 x8 σ) {K113 K113' : Int → Int → Int → Int → Int → Int → Int → Int → Int → Int → St → Prop} (hK113 : ∀ (x1 : Int) (x2 : Int) (x3 : Int) (x4 : Int) (x5 : Int) (x6 : Int) (x7 : Int) (x8 : Int) (x9 : Int) (x10 : Int) (σ : St), Fr S_X3_gatherPairs σ0 σ → K113 x1 x2 x3 x4 x5 x6 x7 x8 x9 x10 σ → K113' x1 x2 x3 x4 x5 x6 x7 x8 x9 x10 σ) {x1 x2 x3 x4 x5 x6 x7 x8 x9 x10 s0 : Int} {σ : St} (f0 : Fr S_X3_gatherPairs σ0 σ) (h : wp_X3_gatherPairs_b146 Q K77 K113 x1 x2 x3 x4 x5 x6 x7 x8 x9 x10 s0 σ) : wp_X3_gatherPairs_b146 Q' K77' K113' x1 x2 x3 x4 x5 x6 x7 x8 x9 x10 s0 σ := by
  unfold wp_X3_gatherPairs_b146 at h ⊢
  refine mf_X3_putInBase (fun r5 σ6 h gσ6 => ?_) Fr.rf h
  have fσ6 : Fr S_X3_gatherPairs σ0 σ6 := f0.tr gσ6 (mkS_sub (by decide) (by decide))
  refine ⟨fun hc => ?_, fun hc => ?_⟩
  · replace h := h.1 hc
    intro v7 ev7; replace h := h v7 ev7
    exact hK113 _ _ _ _ _ _ _ _ _ _ _ fσ6 h
  · replace h := h.2 hc
    refine ⟨fun hc => ?_, fun hc => ?_⟩
    · replace h := h.1 hc
      exact mf_X3_gatherPairs_b179 hq hK77 fσ6 h
    · replace h := h.2 hc
      exact hq _ _ h fσ6
set_option maxHeartbeats 1000000 in
theorem mf_X3_gatherPairs_l113 {Q Q' : Int → St → Prop} {σ0 : St} (hq : ∀ (r : Int) (σ1 : St), Q r σ1 → Fr S_X3_gatherPairs σ0 σ1 → Q' r σ1) {K77 K77' : Int → Int → Int → Int → Int → Int → Int → Int → St → Prop} (hK77 : ∀ (x1 : Int) (x2 : Int) (x3 : Int) (x4 : Int) (x5 : Int) (x6 : Int) (x7 : Int) (x8 : Int) (σ : St), Fr S_X3_gatherPairs σ0 σ → K77 x1 x2 x3 x4 x5 x6 x7 x8 σ → K77' x1 x2 x3 x4 x5 x6 x7 x8 σ) : ∀ (n : Nat) (x1 : Int) (x2 : Int) (x3 : Int) (x4 : Int) (x5 : Int) (x6 : Int) (x7 : Int) (x8 : Int) (x9 : Int) (x10 : Int) (σ : St), Fr S_X3_gatherPairs σ0 σ → wp_X3_gatherPairs_l113 Q K77 n x1 x2 x3 x4 x5 x6 x7 x8 x9 x10 σ → wp_X3_gatherPairs_l113 Q' K77' n x1 x2 x3 x4 x5 x6 x7 x8 x9 x10 σ := by
  intro n
  induction n with
  | zero => intro _ _ _ _ _ _ _ _ _ _ _ _ h; exact h.elim
  | succ n ih =>
    intro x1 x2 x3 x4 x5 x6 x7 x8 x9 x10 σ f0 h
    unfold wp_X3_gatherPairs_l113 at h ⊢
    refine ⟨fun hc => ?_, fun hc => ?_⟩
    · replace h := h.1 hc
      exact mf_X3_gatherPairs_b179 hq hK77 f0 h
    · replace h := h.2 hc
      refine ⟨fun hc => ?_, fun hc => ?_⟩
      · replace h := h.1 hc
        refine ⟨h.1, ?_⟩; replace h := h.2
        exact mf_X3_gatherPairs_b146 hq hK77 ih f0 h
      · replace h := h.2 hc
        exact mf_X3_gatherPairs_b146 hq hK77 ih f0 h
set_option maxHeartbeats 1000000 in
theorem mf_X3_gatherPairs_b108 {Q Q' : Int → St → Prop} {σ0 : St} (hq : ∀ (r : Int) (σ1 : St), Q r σ1 → Fr S_X3_gatherPairs σ0 σ1 → Q' r σ1) {K77 K77' : Int → Int → Int → Int → Int → Int → Int → Int → St → Prop} (hK77 : ∀ (x1 : Int) (x2 : Int) (x3 : Int) (x4 : Int) (x5 : Int) (x6 : Int) (x7 : Int) (x8 : Int) (σ : St), Fr S_X3_gatherPairs σ0 σ → K77 x1 x2 x3 x4 x5 x6 x7 x8 σ → K77' x1 x2 x3 x4 x5 x6 x7 x8 σ) {x1 x2 x3 x4 x5 x6 x7 x8 s0 : Int} {σ : St} (f0 : Fr S_X3_gatherPairs σ0 σ) (h : wp_X3_gatherPairs_b108 Q K77 x1 x2 x3 x4 x5 x6 x7 x8 s0 σ) : wp_X3_gatherPairs_b108 Q' K77' x1 x2 x3 x4 x5 x6 x7 x8 s0 σ := by
  unfold wp_X3_gatherPairs_b108 at h ⊢
  exact mf_X3_gatherPairs_l113 hq hK77 bigN _ _ _ _ _ _ _ _ _ _ _ f0 h
set_option maxHeartbeats 1000000 in
theorem mf_X3_gatherPairs_l77 {Q Q' : Int → St → Prop} {σ0 : St} (hq : ∀ (r : Int) (σ1 : St), Q r σ1 → Fr S_X3_gatherPairs σ0 σ1 → Q' r σ1) : ∀ (n : Nat) (x1 : Int) (x2 : Int) (x3 : Int) (x4 : Int) (x5 : Int) (x6 : Int) (x7 : Int) (x8 : Int) (σ : St), Fr S_X3_gatherPairs σ0 σ → wp_X3_gatherPairs_l77 Q n x1 x2 x3 x4 x5 x6 x7 x8 σ → wp_X3_gatherPairs_l77 Q' n x1 x2 x3 x4 x5 x6 x7 x8 σ := by
  intro n
  induction n with
  | zero => intro _ _ _ _ _ _ _ _ _ _ h; exact h.elim
  | succ n ih =>
    intro x1 x2 x3 x4 x5 x6 x7 x8 σ f0 h
    unfold wp_X3_gatherPairs_l77 at h ⊢
    refine ⟨fun hc => ?_, fun hc => ?_⟩
    · replace h := h.1 hc
      exact hq _ _ h f0
    · replace h := h.2 hc
      refine ⟨fun hc => ?_, fun hc => ?_⟩
      · replace h := h.1 hc
        refine ⟨h.1, ?_⟩; replace h := h.2
        exact mf_X3_gatherPairs_b108 hq ih f0 h
      · replace h := h.2 hc
        exact mf_X3_gatherPairs_b108 hq ih f0 h
set_option maxHeartbeats 1000000 in
theorem mf_X3_gatherPairs_b53 {Q Q' : Int → St → Prop} {σ0 : St} (hq : ∀ (r : Int) (σ1 : St), Q r σ1 → Fr S_X3_gatherPairs σ0 σ1 → Q' r σ1) {x1 x2 x3 x4 x5 s0 : Int} {σ : St} (f0 : Fr S_X3_gatherPairs σ0 σ) (h : wp_X3_gatherPairs_b53 Q x1 x2 x3 x4 x5 s0 σ) : wp_X3_gatherPairs_b53 Q' x1 x2 x3 x4 x5 s0 σ := by
  unfold wp_X3_gatherPairs_b53 at h ⊢
  refine ⟨h.1, ?_⟩; replace h := h.2
  refine ⟨h.1, ?_⟩; replace h := h.2
  intro v3 ev3; replace h := h v3 ev3
  exact mf_X3_gatherPairs_l77 hq bigN _ _ _ _ _ _ _ _ _ f0 h
set_option maxHeartbeats 1000000 in
theorem mf_X3_gatherPairs_b35 {Q Q' : Int → St → Prop} {σ0 : St} (hq : ∀ (r : Int) (σ1 : St), Q r σ1 → Fr S_X3_gatherPairs σ0 σ1 → Q' r σ1) {x1 x2 x3 x4 s0 : Int} {σ : St} (f0 : Fr S_X3_gatherPairs σ0 σ) (h : wp_X3_gatherPairs_b35 Q x1 x2 x3 x4 s0 σ) : wp_X3_gatherPairs_b35 Q' x1 x2 x3 x4 s0 σ := by
  unfold wp_X3_gatherPairs_b35 at h ⊢
  refine ⟨fun hc => ?_, fun hc => ?_⟩
  · replace h := h.1 hc
    refine ⟨h.1, ?_⟩; replace h := h.2
    exact mf_X3_gatherPairs_b53 hq f0 h
  · replace h := h.2 hc
    exact mf_X3_gatherPairs_b53 hq f0 h
set_option maxHeartbeats 1000000 in
theorem mf_X3_gatherPairs {Q Q' : Int → St → Prop} {σ0 : St} (hq : ∀ (r : Int) (σ1 : St), Q r σ1 → Fr S_X3_gatherPairs σ0 σ1 → Q' r σ1) {x1 x2 : Int} {σ : St} (f0 : Fr S_X3_gatherPairs σ0 σ) (h : wp_X3_gatherPairs x1 x2 σ Q) : wp_X3_gatherPairs x1 x2 σ Q' := by
  unfold wp_X3_gatherPairs at h ⊢
  refine ⟨h.1, ?_⟩; replace h := h.2
  intro v1 ev1; replace h := h v1 ev1
  refine ⟨h.1, ?_⟩; replace h := h.2
  intro v2 ev2; replace h := h v2 ev2
  refine ⟨fun hc => ?_, fun hc => ?_⟩
  · replace h := h.1 hc
    refine ⟨h.1, ?_⟩; replace h := h.2
    exact mf_X3_gatherPairs_b35 hq f0 h
  · replace h := h.2 hc
    exact mf_X3_gatherPairs_b35 hq f0 h
set_option maxHeartbeats 1000000 in
theorem mf_X3_gatherBase_b49 {Q Q' : Int → St → Prop} {σ0 : St} (hq : ∀ (r : Int) (σ1 : St), Q r σ1 → Fr S_X3_gatherBase σ0 σ1 → Q' r σ1) {K9 K9' : Int → Int → Int → St → Prop} (hK9 : ∀ (x1 : Int) (x2 : Int) (x3 : Int) (σ : St), Fr S_X3_gatherBase σ0 σ → K9 x1 x2 x3 σ → K9' x1 x2 x3 σ) {x1 x2 x3 : Int} {σ : St} (f0 : Fr S_X3_gatherBase σ0 σ) (h : wp_X3_gatherBase_b49 Q K9 x1 x2 x3 σ) : wp_X3_gatherBase_b49 Q' K9' x1 x2 x3 σ := by
  unfold wp_X3_gatherBase_b49 at h ⊢
  intro v11 ev11; replace h := h v11 ev11
  exact hK9 _ _ _ _ f0 h
set_option maxHeartbeats 1000000 in
theorem mf_X3_gatherBase_l9 {Q Q' : Int → St → Prop} {σ0 : St} (hq : ∀ (r : Int) (σ1 : St), Q r σ1 → Fr S_X3_gatherBase σ0 σ1 → Q' r σ1) : ∀ (n : Nat) (x1 : Int) (x2 : Int) (x3 : Int) (σ : St), Fr S_X3_gatherBase σ0 σ → wp_X3_gatherBase_l9 Q n x1 x2 x3 σ → wp_X3_gatherBase_l9 Q' n x1 x2 x3 σ := by
  intro n
  induction n with
  | zero => intro _ _ _ _ _ h; exact h.elim
  | succ n ih =>
    intro x1 x2 x3 σ f0 h
    unfold wp_X3_gatherBase_l9 at h ⊢
    refine mf_X0_caseEnd (fun r3 σ4 h gσ4 => ?_) Fr.rf h
    have fσ4 : Fr S_X3_gatherBase σ0 σ4 := f0.tr gσ4 (mkS_sub (by decide) (by decide))
    refine ⟨fun hc => ?_, fun hc => ?_⟩
    · replace h := h.1 hc
      exact hq _ _ h fσ4
    · replace h := h.2 hc
      refine mf_X0_goesOn (fun r5 σ6 h gσ6 => ?_) Fr.rf h
      have fσ6 : Fr S_X3_gatherBase σ0 σ6 := fσ4.tr gσ6 (mkS_sub (by decide) (by decide))
      refine ⟨fun hc => ?_, fun hc => ?_⟩
      · replace h := h.1 hc
        exact mf_X3_gatherBase_b49 hq ih fσ6 h
      · replace h := h.2 hc
        refine mf_X1_isFull (fun r7 σ8 h gσ8 => ?_) Fr.rf h
        have fσ8 : Fr S_X3_gatherBase σ0 σ8 := fσ6.tr gσ8 (mkS_sub (by decide) (by decide))
        refine ⟨fun hc => ?_, fun hc => ?_⟩
        · replace h := h.1 hc
          exact mf_X3_gatherBase_b49 hq ih fσ8 h
        · replace h := h.2 hc
          refine mf_X3_gatherPairs (fun r9 σ10 h gσ10 => ?_) Fr.rf h
          have fσ10 : Fr S_X3_gatherBase σ0 σ10 := fσ8.tr gσ10 (mkS_sub (by decide) (by decide))
          exact mf_X3_gatherBase_b49 hq ih fσ10 h
set_option maxHeartbeats 1000000 in
theorem mf_X3_gatherBase {Q Q' : Int → St → Prop} {σ0 : St} (hq : ∀ (r : Int) (σ1 : St), Q r σ1 → Fr S_X3_gatherBase σ0 σ1 → Q' r σ1) {x1 x2 : Int} {σ : St} (f0 : Fr S_X3_gatherBase σ0 σ) (h : wp_X3_gatherBase x1 x2 σ Q) : wp_X3_gatherBase x1 x2 σ Q' := by
  unfold wp_X3_gatherBase at h ⊢
  refine mf_X0_caseStart (fun r1 σ2 h gσ2 => ?_) Fr.rf h
  have fσ2 : Fr S_X3_gatherBase σ0 σ2 := f0.tr gσ2 (mkS_sub (by decide) (by decide))
  exact mf_X3_gatherBase_l9 hq bigN _ _ _ _ fσ2 h
set_option maxHeartbeats 1000000 in
theorem mf_X3_append_b58 {Q Q' : Int → St → Prop} {σ0 : St} (hq : ∀ (r : Int) (σ1 : St), Q r σ1 → Fr S_X3_append σ0 σ1 → Q' r σ1) {K24 K24' : Int → Int → Int → Int → Int → Int → Int → Int → St → Prop} (hK24 : ∀ (x1 : Int) (x2 : Int) (x3 : Int) (x4 : Int) (x5 : Int) (x6 : Int) (x7 : Int) (x8 : Int) (σ : St), Fr S_X3_append σ0 σ → K24 x1 x2 x3 x4 x5 x6 x7 x8 σ → K24' x1 x2 x3 x4 x5 x6 x7 x8 σ) {x1 x2 x3 x4 x5 x6 x7 x8 : Int} {σ : St} (f0 : Fr S_X3_append σ0 σ) (h : wp_X3_append_b58 Q K24 x1 x2 x3 x4 x5 x6 x7 x8 σ) : wp_X3_append_b58 Q' K24' x1 x2 x3 x4 x5 x6 x7 x8 σ := by
  unfold wp_X3_append_b58 at h ⊢
  intro v12 ev12; replace h := h v12 ev12
  exact hK24 _ _ _ _ _ _ _ _ _ f0 h
set_option maxHeartbeats 1000000 in
theorem mf_X3_append_b98 {Q Q' : Int → St → Prop} {σ0 : St} (hq : ∀ (r : Int) (σ1 : St), Q r σ1 → Fr S_X3_append σ0 σ1 → Q' r σ1) {K68 K68' : Int → Int → Int → Int → Int → Int → Int → St → Prop} (hK68 : ∀ (x1 : Int) (x2 : Int) (x3 : Int) (x4 : Int) (x6 : Int) (x7 : Int) (x8 : Int) (σ : St), Fr S_X3_append σ0 σ → K68 x1 x2 x3 x4 x6 x7 x8 σ → K68' x1 x2 x3 x4 x6 x7 x8 σ) {x1 x2 x3 x4 x6 x7 x8 : Int} {σ : St} (f0 : Fr S_X3_append σ0 σ) (h : wp_X3_append_b98 Q K68 x1 x2 x3 x4 x6 x7 x8 σ) : wp_X3_append_b98 Q' K68' x1 x2 x3 x4 x6 x7 x8 σ := by
  unfold wp_X3_append_b98 at h ⊢
  intro v13 ev13; replace h := h v13 ev13
  exact hK68 _ _ _ _ _ _ _ _ f0 h
set_option maxHeartbeats 1000000 in
theorem mf_X3_append_l68 {Q Q' : Int → St → Prop} {σ0 : St} (hq : ∀ (r : Int) (σ1 : St), Q r σ1 → Fr S_X3_append σ0 σ1 → Q' r σ1) : ∀ (n : Nat) (x1 : Int) (x2 : Int) (x3 : Int) (x4 : Int) (x6 : Int) (x7 : Int) (x8 : Int) (σ : St), Fr S_X3_append σ0 σ → wp_X3_append_l68 Q n x1 x2 x3 x4 x6 x7 x8 σ → wp_X3_append_l68 Q' n x1 x2 x3 x4 x6 x7 x8 σ := by
  intro n
  induction n with
  | zero => intro _ _ _ _ _ _ _ _ _ h; exact h.elim
  | succ n ih =>
    intro x1 x2 x3 x4 x6 x7 x8 σ f0 h
    unfold wp_X3_append_l68 at h ⊢
    refine ⟨fun hc => ?_, fun hc => ?_⟩
    · replace h := h.1 hc
      refine ⟨h.1, fun σ6 eσ6 => ?_⟩; replace h := h.2 σ6 eσ6; have fσ6 : Fr S_X3_append σ0 σ6 := by rw [eσ6]; exact f0.up rfl
      refine ⟨h.1, fun σ7 eσ7 => ?_⟩; replace h := h.2 σ7 eσ7; have fσ7 : Fr S_X3_append σ0 σ7 := by rw [eσ7]; exact fσ6.up rfl
      refine ⟨h.1, fun σ8 eσ8 => ?_⟩; replace h := h.2 σ8 eσ8; have fσ8 : Fr S_X3_append σ0 σ8 := by rw [eσ8]; exact fσ7.up rfl
      refine ⟨h.1, fun σ9 eσ9 => ?_⟩; replace h := h.2 σ9 eσ9; have fσ9 : Fr S_X3_append σ0 σ9 := by rw [eσ9]; exact fσ8.up rfl
      refine ⟨h.1, ?_⟩; replace h := h.2
      refine ⟨h.1, fun σ10 eσ10 => ?_⟩; replace h := h.2 σ10 eσ10; have fσ10 : Fr S_X3_append σ0 σ10 := by rw [eσ10]; exact fσ9.up rfl
      exact hq _ _ h fσ10
    · replace h := h.2 hc
      refine ⟨h.1, ?_⟩; replace h := h.2
      refine ⟨fun hc => ?_, fun hc => ?_⟩
      · replace h := h.1 hc
        exact mf_X3_append_b98 hq ih f0 h
      · replace h := h.2 hc
        refine ⟨h.1, ?_⟩; replace h := h.2
        refine ⟨h.1, fun σ11 eσ11 => ?_⟩; replace h := h.2 σ11 eσ11; have fσ11 : Fr S_X3_append σ0 σ11 := by rw [eσ11]; exact f0.up rfl
        exact mf_X3_append_b98 hq ih fσ11 h
set_option maxHeartbeats 1000000 in
theorem mf_X3_append_l24 {Q Q' : Int → St → Prop} {σ0 : St} (hq : ∀ (r : Int) (σ1 : St), Q r σ1 → Fr S_X3_append σ0 σ1 → Q' r σ1) : ∀ (n : Nat) (x1 : Int) (x2 : Int) (x3 : Int) (x4 : Int) (x5 : Int) (x6 : Int) (x7 : Int) (x8 : Int) (σ : St), Fr S_X3_append σ0 σ → wp_X3_append_l24 Q n x1 x2 x3 x4 x5 x6 x7 x8 σ → wp_X3_append_l24 Q' n x1 x2 x3 x4 x5 x6 x7 x8 σ := by
  intro n
  induction n with
  | zero => intro _ _ _ _ _ _ _ _ _ _ h; exact h.elim
  | succ n ih =>
    intro x1 x2 x3 x4 x5 x6 x7 x8 σ f0 h
    unfold wp_X3_append_l24 at h ⊢
    refine ⟨fun hc => ?_, fun hc => ?_⟩
    · replace h := h.1 hc
      exact mf_X3_append_l68 hq bigN _ _ _ _ _ _ _ _ f0 h
    · replace h := h.2 hc
      refine ⟨h.1, ?_⟩; replace h := h.2
      refine ⟨h.1, ?_⟩; replace h := h.2
      refine mf_X3_isSmaller (fun r3 σ4 h gσ4 => ?_) Fr.rf h
      have fσ4 : Fr S_X3_append σ0 σ4 := f0.tr gσ4 (mkS_sub (by decide) (by decide))
      refine ⟨fun hc => ?_, fun hc => ?_⟩
      · replace h := h.1 hc
        exact mf_X3_append_b58 hq ih fσ4 h
      · replace h := h.2 hc
        intro v5 ev5; replace h := h v5 ev5
        exact mf_X3_append_b58 hq ih fσ4 h
set_option maxHeartbeats 1000000 in
theorem mf_X3_append {Q Q' : Int → St → Prop} {σ0 : St} (hq : ∀ (r : Int) (σ1 : St), Q r σ1 → Fr S_X3_append σ0 σ1 → Q' r σ1) {x1 x2 x3 x4 : Int} {σ : St} (f0 : Fr S_X3_append σ0 σ) (h : wp_X3_append x1 x2 x3 x4 σ Q) : wp_X3_append x1 x2 x3 x4 σ Q' := by
  unfold wp_X3_append at h ⊢
  intro v1 ev1; replace h := h v1 ev1
  refine ⟨h.1, ?_⟩; replace h := h.2
  intro v2 ev2; replace h := h v2 ev2
  exact mf_X3_append_l24 hq bigN _ _ _ _ _ _ _ _ _ f0 h
set_option maxHeartbeats 1000000 in
theorem mf_X3_takeOfBase {Q Q' : Int → St → Prop} {σ0 : St} (hq : ∀ (r : Int) (σ1 : St), Q r σ1 → Fr S_X3_takeOfBase σ0 σ1 → Q' r σ1) {x1 x2 : Int} {σ : St} (f0 : Fr S_X3_takeOfBase σ0 σ) (h : wp_X3_takeOfBase x1 x2 σ Q) : wp_X3_takeOfBase x1 x2 σ Q' := by
  unfold wp_X3_takeOfBase at h ⊢
  refine ⟨h.1, ?_⟩; replace h := h.2
  intro v1 ev1; replace h := h v1 ev1
  refine ⟨h.1, ?_⟩; replace h := h.2
  refine ⟨h.1, ?_⟩; replace h := h.2
  refine ⟨h.1, ?_⟩; replace h := h.2
  refine mf_X3_append (fun r2 σ3 h gσ3 => ?_) Fr.rf h
  have fσ3 : Fr S_X3_takeOfBase σ0 σ3 := f0.tr gσ3 (mkS_sub (by decide) (by decide))
  refine ⟨h.1, ?_⟩; replace h := h.2
  refine ⟨h.1, fun σ4 eσ4 => ?_⟩; replace h := h.2 σ4 eσ4; have fσ4 : Fr S_X3_takeOfBase σ0 σ4 := by rw [eσ4]; exact fσ3.up rfl
  exact hq _ _ h fσ4
set_option maxHeartbeats 1000000 in
theorem mf_X3_takeAllOfBase_l2 {Q Q' : Int → St → Prop} {σ0 : St} (hq : ∀ (r : Int) (σ1 : St), Q r σ1 → Fr S_X3_takeAllOfBase σ0 σ1 → Q' r σ1) : ∀ (n : Nat) (x1 : Int) (x2 : Int) (x3 : Int) (σ : St), Fr S_X3_takeAllOfBase σ0 σ → wp_X3_takeAllOfBase_l2 Q n x1 x2 x3 σ → wp_X3_takeAllOfBase_l2 Q' n x1 x2 x3 σ := by
  intro n
  induction n with
  | zero => intro _ _ _ _ _ h; exact h.elim
  | succ n ih =>
    intro x1 x2 x3 σ f0 h
    unfold wp_X3_takeAllOfBase_l2 at h ⊢
    refine ⟨fun hc => ?_, fun hc => ?_⟩
    · replace h := h.1 hc
      exact hq _ _ h f0
    · replace h := h.2 hc
      refine ⟨h.1, ?_⟩; replace h := h.2
      refine ⟨h.1, ?_⟩; replace h := h.2
      refine ⟨fun hc => ?_, fun hc => ?_⟩
      · replace h := h.1 hc
        exact hq _ _ h f0
      · replace h := h.2 hc
        refine mf_X3_takeOfBase (fun r1 σ2 h gσ2 => ?_) Fr.rf h
        have fσ2 : Fr S_X3_takeAllOfBase σ0 σ2 := f0.tr gσ2 (mkS_sub (by decide) (by decide))
        intro v3 ev3; replace h := h v3 ev3
        exact ih _ _ _ _ fσ2 h
set_option maxHeartbeats 1000000 in
theorem mf_X3_takeAllOfBase {Q Q' : Int → St → Prop} {σ0 : St} (hq : ∀ (r : Int) (σ1 : St), Q r σ1 → Fr S_X3_takeAllOfBase σ0 σ1 → Q' r σ1) {x1 x2 : Int} {σ : St} (f0 : Fr S_X3_takeAllOfBase σ0 σ) (h : wp_X3_takeAllOfBase x1 x2 σ Q) : wp_X3_takeAllOfBase x1 x2 σ Q' := by
  unfold wp_X3_takeAllOfBase at h ⊢
  exact mf_X3_takeAllOfBase_l2 hq bigN _ _ _ _ f0 h
set_option maxHeartbeats 1000000 in
theorem mf_X3_findHead_b231 {Q Q' : Int → St → Prop} {σ0 : St} (hq : ∀ (r : Int) (σ1 : St), Q r σ1 → Fr S_X3_findHead σ0 σ1 → Q' r σ1) {K62 K62' : Int → Int → Int → Int → St → Prop} (hK62 : ∀ (x1 : Int) (x2 : Int) (x3 : Int) (x4 : Int) (σ : St), Fr S_X3_findHead σ0 σ → K62 x1 x2 x3 x4 σ → K62' x1 x2 x3 x4 σ) {x1 x2 x3 x4 : Int} {σ : St} (f0 : Fr S_X3_findHead σ0 σ) (h : wp_X3_findHead_b231 Q K62 x1 x2 x3 x4 σ) : wp_X3_findHead_b231 Q' K62' x1 x2 x3 x4 σ := by
  unfold wp_X3_findHead_b231 at h ⊢
  intro v9 ev9; replace h := h v9 ev9
  exact hK62 _ _ _ _ _ f0 h
set_option maxHeartbeats 1000000 in
theorem mf_X3_findHead_b211 {Q Q' : Int → St → Prop} {σ0 : St} (hq : ∀ (r : Int) (σ1 : St), Q r σ1 → Fr S_X3_findHead σ0 σ1 → Q' r σ1) {K62 K62' : Int → Int → Int → Int → St → Prop} (hK62 : ∀ (x1 : Int) (x2 : Int) (x3 : Int) (x4 : Int) (σ : St), Fr S_X3_findHead σ0 σ → K62 x1 x2 x3 x4 σ → K62' x1 x2 x3 x4 σ) {x1 x2 x4 x7 : Int} {σ : St} (f0 : Fr S_X3_findHead σ0 σ) (h : wp_X3_findHead_b211 Q K62 x1 x2 x4 x7 σ) : wp_X3_findHead_b211 Q' K62' x1 x2 x4 x7 σ := by
  unfold wp_X3_findHead_b211 at h ⊢
  intro σ10 eσ10; replace h := h σ10 eσ10; have fσ10 : Fr S_X3_findHead σ0 σ10 := by rw [eσ10]; exact f0.up rfl
  intro σ11 eσ11; replace h := h σ11 eσ11; have fσ11 : Fr S_X3_findHead σ0 σ11 := by rw [eσ11]; exact fσ10.up rfl
  refine ⟨h.1, ?_⟩; replace h := h.2
  intro v12 ev12; replace h := h v12 ev12
  exact mf_X3_findHead_b231 hq hK62 fσ11 h
set_option maxHeartbeats 1000000 in
theorem mf_X3_findHead_b187 {Q Q' : Int → St → Prop} {σ0 : St} (hq : ∀ (r : Int) (σ1 : St), Q r σ1 → Fr S_X3_findHead σ0 σ1 → Q' r σ1) {K62 K62' : Int → Int → Int → Int → St → Prop} (hK62 : ∀ (x1 : Int) (x2 : Int) (x3 : Int) (x4 : Int) (σ : St), Fr S_X3_findHead σ0 σ → K62 x1 x2 x3 x4 σ → K62' x1 x2 x3 x4 σ) {x1 x2 x3 x4 x7 s0 : Int} {σ : St} (f0 : Fr S_X3_findHead σ0 σ) (h : wp_X3_findHead_b187 Q K62 x1 x2 x3 x4 x7 s0 σ) : wp_X3_findHead_b187 Q' K62' x1 x2 x3 x4 x7 s0 σ := by
  unfold wp_X3_findHead_b187 at h ⊢
  refine ⟨fun hc => ?_, fun hc => ?_⟩
  · replace h := h.1 hc
    exact mf_X3_findHead_b211 hq hK62 f0 h
  · replace h := h.2 hc
    refine ⟨fun hc => ?_, fun hc => ?_⟩
    · replace h := h.1 hc
      exact mf_X3_findHead_b211 hq hK62 f0 h
    · replace h := h.2 hc
      refine ⟨fun hc => ?_, fun hc => ?_⟩
      · replace h := h.1 hc
        exact mf_X3_findHead_b231 hq hK62 f0 h
      · replace h := h.2 hc
        exact mf_X3_findHead_b211 hq hK62 f0 h
set_option maxHeartbeats 1000000 in
theorem mf_X3_findHead_b186 {Q Q' : Int → St → Prop} {σ0 : St} (hq : ∀ (r : Int) (σ1 : St), Q r σ1 → Fr S_X3_findHead σ0 σ1 → Q' r σ1) {K62 K62' : Int → Int → Int → Int → St → Prop} (hK62 : ∀ (x1 : Int) (x2 : Int) (x3 : Int) (x4 : Int) (σ : St), Fr S_X3_findHead σ0 σ → K62 x1 x2 x3 x4 σ → K62' x1 x2 x3 x4 σ) {x1 x2 x3 x4 x7 : Int} {σ : St} (f0 : Fr S_X3_findHead σ0 σ) (h : wp_X3_findHead_b186 Q K62 x1 x2 x3 x4 x7 σ) : wp_X3_findHead_b186 Q' K62' x1 x2 x3 x4 x7 σ := by
  unfold wp_X3_findHead_b186 at h ⊢
  exact mf_X3_findHead_b187 hq hK62 f0 h
set_option maxHeartbeats 1000000 in
theorem mf_X3_findHead_l62 {Q Q' : Int → St → Prop} {σ0 : St} (hq : ∀ (r : Int) (σ1 : St), Q r σ1 → Fr S_X3_findHead σ0 σ1 → Q' r σ1) : ∀ (n : Nat) (x1 : Int) (x2 : Int) (x3 : Int) (x4 : Int) (σ : St), Fr S_X3_findHead σ0 σ → wp_X3_findHead_l62 Q n x1 x2 x3 x4 σ → wp_X3_findHead_l62 Q' n x1 x2 x3 x4 σ := by
  intro n
  induction n with
  | zero => intro _ _ _ _ _ _ h; exact h.elim
  | succ n ih =>
    intro x1 x2 x3 x4 σ f0 h
    unfold wp_X3_findHead_l62 at h ⊢
    refine ⟨fun hc => ?_, fun hc => ?_⟩
    · replace h := h.1 hc
      exact hq _ _ h f0
    · replace h := h.2 hc
      refine ⟨h.1, ?_⟩; replace h := h.2
      intro v6 ev6; replace h := h v6 ev6
      refine ⟨h.1, ?_⟩; replace h := h.2
      intro v7 ev7; replace h := h v7 ev7
      refine ⟨h.1, ?_⟩; replace h := h.2
      refine ⟨fun hc => ?_, fun hc => ?_⟩
      · replace h := h.1 hc
        exact mf_X3_findHead_b231 hq ih f0 h
      · replace h := h.2 hc
        refine ⟨h.1, ?_⟩; replace h := h.2
        refine ⟨h.1, ?_⟩; replace h := h.2
        refine ⟨fun hc => ?_, fun hc => ?_⟩
        · replace h := h.1 hc
          exact mf_X3_findHead_b231 hq ih f0 h
        · replace h := h.2 hc
          refine ⟨h.1, ?_⟩; replace h := h.2
          refine ⟨h.1, ?_⟩; replace h := h.2
          refine ⟨h.1, ?_⟩; replace h := h.2
          intro v8 ev8; replace h := h v8 ev8
          refine ⟨fun hc => ?_, fun hc => ?_⟩
          · replace h := h.1 hc
            exact mf_X3_findHead_b186 hq ih f0 h
          · replace h := h.2 hc
            refine ⟨h.1, ?_⟩; replace h := h.2
            refine ⟨fun hc => ?_, fun hc => ?_⟩
            · replace h := h.1 hc
              exact mf_X3_findHead_b186 hq ih f0 h
            · replace h := h.2 hc
              exact mf_X3_findHead_b187 hq ih f0 h
set_option maxHeartbeats 1000000 in
theorem mf_X3_findHead_b59 {Q Q' : Int → St → Prop} {σ0 : St} (hq : ∀ (r : Int) (σ1 : St), Q r σ1 → Fr S_X3_findHead σ0 σ1 → Q' r σ1) {x1 x2 x3 : Int} {σ : St} (f0 : Fr S_X3_findHead σ0 σ) (h : wp_X3_findHead_b59 Q x1 x2 x3 σ) : wp_X3_findHead_b59 Q' x1 x2 x3 σ := by
  unfold wp_X3_findHead_b59 at h ⊢
  exact mf_X3_findHead_l62 hq bigN _ _ _ _ _ f0 h
set_option maxHeartbeats 1000000 in
theorem mf_X3_findHead {Q Q' : Int → St → Prop} {σ0 : St} (hq : ∀ (r : Int) (σ1 : St), Q r σ1 → Fr S_X3_findHead σ0 σ1 → Q' r σ1) {x1 x2 : Int} {σ : St} (f0 : Fr S_X3_findHead σ0 σ) (h : wp_X3_findHead x1 x2 σ Q) : wp_X3_findHead x1 x2 σ Q' := by
  unfold wp_X3_findHead at h ⊢
  intro σ1 eσ1; replace h := h σ1 eσ1; have fσ1 : Fr S_X3_findHead σ0 σ1 := by rw [eσ1]; exact f0.up rfl
  intro σ2 eσ2; replace h := h σ2 eσ2; have fσ2 : Fr S_X3_findHead σ0 σ2 := by rw [eσ2]; exact fσ1.up rfl
  refine ⟨h.1, ?_⟩; replace h := h.2
  refine ⟨h.1, ?_⟩; replace h := h.2
  refine ⟨fun hc => ?_, fun hc => ?_⟩
  · replace h := h.1 hc
    exact mf_X3_findHead_b59 hq fσ2 h
  · replace h := h.2 hc
    refine ⟨h.1, ?_⟩; replace h := h.2
    intro v3 ev3; replace h := h v3 ev3
    refine ⟨h.1, ?_⟩; replace h := h.2
    intro σ4 eσ4; replace h := h σ4 eσ4; have fσ4 : Fr S_X3_findHead σ0 σ4 := by rw [eσ4]; exact fσ2.up rfl
    refine ⟨h.1, ?_⟩; replace h := h.2
    intro v5 ev5; replace h := h v5 ev5
    exact mf_X3_findHead_b59 hq fσ4 h
set_option maxHeartbeats 1000000 in
theorem mf_X3_takeLeast_b87 {Q Q' : Int → St → Prop} {σ0 : St} (hq : ∀ (r : Int) (σ1 : St), Q r σ1 → Fr S_X3_takeLeast σ0 σ1 → Q' r σ1) {K11 K11' : Int → Int → Int → Int → Int → Int → St → Prop} (hK11 : ∀ (x1 : Int) (x2 : Int) (x3 : Int) (x4 : Int) (x5 : Int) (x6 : Int) (σ : St), Fr S_X3_takeLeast σ0 σ → K11 x1 x2 x3 x4 x5 x6 σ → K11' x1 x2 x3 x4 x5 x6 σ) {x1 x2 x3 x4 x5 x6 : Int} {σ : St} (f0 : Fr S_X3_takeLeast σ0 σ) (h : wp_X3_takeLeast_b87 Q K11 x1 x2 x3 x4 x5 x6 σ) : wp_X3_takeLeast_b87 Q' K11' x1 x2 x3 x4 x5 x6 σ := by
  unfold wp_X3_takeLeast_b87 at h ⊢
  intro v8 ev8; replace h := h v8 ev8
  exact hK11 _ _ _ _ _ _ _ f0 h
set_option maxHeartbeats 1000000 in
theorem mf_X3_takeLeast_b72 {Q Q' : Int → St → Prop} {σ0 : St} (hq : ∀ (r : Int) (σ1 : St), Q r σ1 → Fr S_X3_takeLeast σ0 σ1 → Q' r σ1) {K11 K11' : Int → Int → Int → Int → Int → Int → St → Prop} (hK11 : ∀ (x1 : Int) (x2 : Int) (x3 : Int) (x4 : Int) (x5 : Int) (x6 : Int) (σ : St), Fr S_X3_takeLeast σ0 σ → K11 x1 x2 x3 x4 x5 x6 σ → K11' x1 x2 x3 x4 x5 x6 σ) {x1 x2 x6 : Int} {σ : St} (f0 : Fr S_X3_takeLeast σ0 σ) (h : wp_X3_takeLeast_b72 Q K11 x1 x2 x6 σ) : wp_X3_takeLeast_b72 Q' K11' x1 x2 x6 σ := by
  unfold wp_X3_takeLeast_b72 at h ⊢
  intro v9 ev9; replace h := h v9 ev9
  intro v10 ev10; replace h := h v10 ev10
  exact mf_X3_takeLeast_b87 hq hK11 f0 h
set_option maxHeartbeats 1000000 in
theorem mf_X3_takeLeast_l11 {Q Q' : Int → St → Prop} {σ0 : St} (hq : ∀ (r : Int) (σ1 : St), Q r σ1 → Fr S_X3_takeLeast σ0 σ1 → Q' r σ1) : ∀ (n : Nat) (x1 : Int) (x2 : Int) (x3 : Int) (x4 : Int) (x5 : Int) (x6 : Int) (σ : St), Fr S_X3_takeLeast σ0 σ → wp_X3_takeLeast_l11 Q n x1 x2 x3 x4 x5 x6 σ → wp_X3_takeLeast_l11 Q' n x1 x2 x3 x4 x5 x6 σ := by
  intro n
  induction n with
  | zero => intro _ _ _ _ _ _ _ _ h; exact h.elim
  | succ n ih =>
    intro x1 x2 x3 x4 x5 x6 σ f0 h
    unfold wp_X3_takeLeast_l11 at h ⊢
    refine ⟨fun hc => ?_, fun hc => ?_⟩
    · replace h := h.1 hc
      refine ⟨fun hc => ?_, fun hc => ?_⟩
      · replace h := h.1 hc
        refine ⟨fun hc => ?_, fun hc => ?_⟩
        · replace h := h.1 hc
          refine ⟨h.1, ?_⟩; replace h := h.2
          refine ⟨h.1, ?_⟩; replace h := h.2
          refine mf_X3_append (fun r1 σ2 h gσ2 => ?_) Fr.rf h
          have fσ2 : Fr S_X3_takeLeast σ0 σ2 := f0.tr gσ2 (mkS_sub (by decide) (by decide))
          refine ⟨h.1, ?_⟩; replace h := h.2
          refine ⟨h.1, fun σ3 eσ3 => ?_⟩; replace h := h.2 σ3 eσ3; have fσ3 : Fr S_X3_takeLeast σ0 σ3 := by rw [eσ3]; exact fσ2.up rfl
          exact hq _ _ h fσ3
        · replace h := h.2 hc
          refine mf_X3_takeOfBase (fun r4 σ5 h gσ5 => ?_) Fr.rf h
          have fσ5 : Fr S_X3_takeLeast σ0 σ5 := f0.tr gσ5 (mkS_sub (by decide) (by decide))
          exact hq _ _ h fσ5
      · replace h := h.2 hc
        exact hq _ _ h f0
    · replace h := h.2 hc
      refine ⟨fun hc => ?_, fun hc => ?_⟩
      · replace h := h.1 hc
        exact mf_X3_takeLeast_b87 hq ih f0 h
      · replace h := h.2 hc
        refine ⟨h.1, ?_⟩; replace h := h.2
        refine ⟨fun hc => ?_, fun hc => ?_⟩
        · replace h := h.1 hc
          exact mf_X3_takeLeast_b87 hq ih f0 h
        · replace h := h.2 hc
          refine mf_X3_findHead (fun r6 σ7 h gσ7 => ?_) Fr.rf h
          have fσ7 : Fr S_X3_takeLeast σ0 σ7 := f0.tr gσ7 (mkS_sub (by decide) (by decide))
          refine ⟨fun hc => ?_, fun hc => ?_⟩
          · replace h := h.1 hc
            exact mf_X3_takeLeast_b87 hq ih fσ7 h
          · replace h := h.2 hc
            refine ⟨fun hc => ?_, fun hc => ?_⟩
            · replace h := h.1 hc
              exact mf_X3_takeLeast_b72 hq ih fσ7 h
            · replace h := h.2 hc
              refine ⟨fun hc => ?_, fun hc => ?_⟩
              · replace h := h.1 hc
                exact mf_X3_takeLeast_b87 hq ih fσ7 h
              · replace h := h.2 hc
                exact mf_X3_takeLeast_b72 hq ih fσ7 h
set_option maxHeartbeats 1000000 in
theorem mf_X3_takeLeast {Q Q' : Int → St → Prop} {σ0 : St} (hq : ∀ (r : Int) (σ1 : St), Q r σ1 → Fr S_X3_takeLeast σ0 σ1 → Q' r σ1) {x1 x2 : Int} {σ : St} (f0 : Fr S_X3_takeLeast σ0 σ) (h : wp_X3_takeLeast x1 x2 σ Q) : wp_X3_takeLeast x1 x2 σ Q' := by
  unfold wp_X3_takeLeast at h ⊢
  exact mf_X3_takeLeast_l11 hq bigN _ _ _ _ _ _ _ f0 h
set_option maxHeartbeats 1000000 in
theorem mf_X3_growSpan_b153 {Q Q' : Int → St → Prop} {σ0 : St} (hq : ∀ (r : Int) (σ1 : St), Q r σ1 → Fr S_X3_growSpan σ0 σ1 → Q' r σ1) {K91 K91' : Int → Int → Int → St → Prop} (hK91 : ∀ (x2 : Int) (x3 : Int) (x4 : Int) (σ : St), Fr S_X3_growSpan σ0 σ → K91 x2 x3 x4 σ → K91' x2 x3 x4 σ) {x2 x3 x4 : Int} {σ : St} (f0 : Fr S_X3_growSpan σ0 σ) (h : wp_X3_growSpan_b153 Q K91 x2 x3 x4 σ) : wp_X3_growSpan_b153 Q' K91' x2 x3 x4 σ := by
  unfold wp_X3_growSpan_b153 at h ⊢
  intro v16 ev16; replace h := h v16 ev16
  exact hK91 _ _ _ _ f0 h
set_option maxHeartbeats 1000000 in
theorem mf_X3_growSpan_l173 {Q Q' : Int → St → Prop} {σ0 : St} (hq : ∀ (r : Int) (σ1 : St), Q r σ1 → Fr S_X3_growSpan σ0 σ1 → Q' r σ1) : ∀ (n : Nat) (x2 : Int) (x3 : Int) (x4 : Int) (x5 : Int) (σ : St), Fr S_X3_growSpan σ0 σ → wp_X3_growSpan_l173 Q n x2 x3 x4 x5 σ → wp_X3_growSpan_l173 Q' n x2 x3 x4 x5 σ := by
  intro n
  induction n with
  | zero => intro _ _ _ _ _ _ h; exact h.elim
  | succ n ih =>
    intro x2 x3 x4 x5 σ f0 h
    unfold wp_X3_growSpan_l173 at h ⊢
    refine ⟨fun hc => ?_, fun hc => ?_⟩
    · replace h := h.1 hc
      exact hq _ _ h f0
    · replace h := h.2 hc
      refine ⟨fun hc => ?_, fun hc => ?_⟩
      · replace h := h.1 hc
        exact hq _ _ h f0
      · replace h := h.2 hc
        refine mf_X3_takeLeast (fun r17 σ18 h gσ18 => ?_) Fr.rf h
        have fσ18 : Fr S_X3_growSpan σ0 σ18 := f0.tr gσ18 (mkS_sub (by decide) (by decide))
        intro v19 ev19; replace h := h v19 ev19
        exact ih _ _ _ _ _ fσ18 h
set_option maxHeartbeats 1000000 in
theorem mf_X3_growSpan_b168 {Q Q' : Int → St → Prop} {σ0 : St} (hq : ∀ (r : Int) (σ1 : St), Q r σ1 → Fr S_X3_growSpan σ0 σ1 → Q' r σ1) {x2 x3 s0 : Int} {σ : St} (f0 : Fr S_X3_growSpan σ0 σ) (h : wp_X3_growSpan_b168 Q x2 x3 s0 σ) : wp_X3_growSpan_b168 Q' x2 x3 s0 σ := by
  unfold wp_X3_growSpan_b168 at h ⊢
  exact mf_X3_growSpan_l173 hq bigN _ _ _ _ _ f0 h
set_option maxHeartbeats 1000000 in
theorem mf_X3_growSpan_l91 {Q Q' : Int → St → Prop} {σ0 : St} (hq : ∀ (r : Int) (σ1 : St), Q r σ1 → Fr S_X3_growSpan σ0 σ1 → Q' r σ1) : ∀ (n : Nat) (x2 : Int) (x3 : Int) (x4 : Int) (σ : St), Fr S_X3_growSpan σ0 σ → wp_X3_growSpan_l91 Q n x2 x3 x4 σ → wp_X3_growSpan_l91 Q' n x2 x3 x4 σ := by
  intro n
  induction n with
  | zero => intro _ _ _ _ _ h; exact h.elim
  | succ n ih =>
    intro x2 x3 x4 σ f0 h
    unfold wp_X3_growSpan_l91 at h ⊢
    refine ⟨fun hc => ?_, fun hc => ?_⟩
    · replace h := h.1 hc
      refine ⟨fun hc => ?_, fun hc => ?_⟩
      · replace h := h.1 hc
        exact mf_X3_growSpan_b168 hq f0 h
      · replace h := h.2 hc
        exact mf_X3_growSpan_b168 hq f0 h
    · replace h := h.2 hc
      refine ⟨h.1, fun σ9 eσ9 => ?_⟩; replace h := h.2 σ9 eσ9; have fσ9 : Fr S_X3_growSpan σ0 σ9 := by rw [eσ9]; exact f0.up rfl
      refine ⟨h.1, fun σ10 eσ10 => ?_⟩; replace h := h.2 σ10 eσ10; have fσ10 : Fr S_X3_growSpan σ0 σ10 := by rw [eσ10]; exact fσ9.up rfl
      refine ⟨h.1, fun σ11 eσ11 => ?_⟩; replace h := h.2 σ11 eσ11; have fσ11 : Fr S_X3_growSpan σ0 σ11 := by rw [eσ11]; exact fσ10.up rfl
      refine mf_X3_gatherBase (fun r12 σ13 h gσ13 => ?_) Fr.rf h
      have fσ13 : Fr S_X3_growSpan σ0 σ13 := fσ11.tr gσ13 (mkS_sub (by decide) (by decide))
      refine ⟨fun hc => ?_, fun hc => ?_⟩
      · replace h := h.1 hc
        exact mf_X3_growSpan_b153 hq ih fσ13 h
      · replace h := h.2 hc
        refine mf_X3_takeAllOfBase (fun r14 σ15 h gσ15 => ?_) Fr.rf h
        have fσ15 : Fr S_X3_growSpan σ0 σ15 := fσ13.tr gσ15 (mkS_sub (by decide) (by decide))
        exact mf_X3_growSpan_b153 hq ih fσ15 h
set_option maxHeartbeats 1000000 in
theorem mf_X3_growSpan_l10 {Q Q' : Int → St → Prop} {σ0 : St} (hq : ∀ (r : Int) (σ1 : St), Q r σ1 → Fr S_X3_growSpan σ0 σ1 → Q' r σ1) : ∀ (n : Nat) (x2 : Int) (x3 : Int) (x4 : Int) (σ : St), Fr S_X3_growSpan σ0 σ → wp_X3_growSpan_l10 Q n x2 x3 x4 σ → wp_X3_growSpan_l10 Q' n x2 x3 x4 σ := by
  intro n
  induction n with
  | zero => intro _ _ _ _ _ h; exact h.elim
  | succ n ih =>
    intro x2 x3 x4 σ f0 h
    unfold wp_X3_growSpan_l10 at h ⊢
    refine ⟨fun hc => ?_, fun hc => ?_⟩
    · replace h := h.1 hc
      exact mf_X3_growSpan_l91 hq bigN _ _ _ _ f0 h
    · replace h := h.2 hc
      refine ⟨h.1, ?_⟩; replace h := h.2
      intro v2 ev2; replace h := h v2 ev2
      refine ⟨h.1, fun σ3 eσ3 => ?_⟩; replace h := h.2 σ3 eσ3; have fσ3 : Fr S_X3_growSpan σ0 σ3 := by rw [eσ3]; exact f0.up rfl
      refine ⟨h.1, ?_⟩; replace h := h.2
      refine mf_X3_caseOfRule (fun r4 σ5 h gσ5 => ?_) Fr.rf h
      have fσ5 : Fr S_X3_growSpan σ0 σ5 := fσ3.tr gσ5 (mkS_sub (by decide) (by decide))
      refine ⟨h.1, fun σ6 eσ6 => ?_⟩; replace h := h.2 σ6 eσ6; have fσ6 : Fr S_X3_growSpan σ0 σ6 := by rw [eσ6]; exact fσ5.up rfl
      refine ⟨h.1, ?_⟩; replace h := h.2
      intro v7 ev7; replace h := h v7 ev7
      intro v8 ev8; replace h := h v8 ev8
      exact ih _ _ _ _ fσ6 h
set_option maxHeartbeats 1000000 in
theorem mf_X3_growSpan {Q Q' : Int → St → Prop} {σ0 : St} (hq : ∀ (r : Int) (σ1 : St), Q r σ1 → Fr S_X3_growSpan σ0 σ1 → Q' r σ1) {x1 : Int} {σ : St} (f0 : Fr S_X3_growSpan σ0 σ) (h : wp_X3_growSpan x1 σ Q) : wp_X3_growSpan x1 σ Q' := by
  unfold wp_X3_growSpan at h ⊢
  intro v1 ev1; replace h := h v1 ev1
  exact mf_X3_growSpan_l10 hq bigN _ _ _ _ f0 h
set_option maxHeartbeats 1000000 in
theorem mf_X3_treeOf_b58 {Q Q' : Int → St → Prop} {σ0 : St} (hq : ∀ (r : Int) (σ1 : St), Q r σ1 → Fr S_X3_treeOf σ0 σ1 → Q' r σ1) {K15 K15' : Int → Int → Int → Int → St → Prop} (hK15 : ∀ (x1 : Int) (x2 : Int) (x3 : Int) (x4 : Int) (σ : St), Fr S_X3_treeOf σ0 σ → K15 x1 x2 x3 x4 σ → K15' x1 x2 x3 x4 σ) {x1 x2 x3 x4 : Int} {σ : St} (f0 : Fr S_X3_treeOf σ0 σ) (h : wp_X3_treeOf_b58 Q K15 x1 x2 x3 x4 σ) : wp_X3_treeOf_b58 Q' K15' x1 x2 x3 x4 σ := by
  unfold wp_X3_treeOf_b58 at h ⊢
  intro v9 ev9; replace h := h v9 ev9
  exact hK15 _ _ _ _ _ f0 h
set_option maxHeartbeats 1000000 in
theorem mf_X3_treeOf_b78 {Q Q' : Int → St → Prop} {σ0 : St} (hq : ∀ (r : Int) (σ1 : St), Q r σ1 → Fr S_X3_treeOf σ0 σ1 → Q' r σ1) {σ : St} (f0 : Fr S_X3_treeOf σ0 σ) (h : wp_X3_treeOf_b78 Q  σ) : wp_X3_treeOf_b78 Q'  σ := by
  unfold wp_X3_treeOf_b78 at h ⊢
  exact hq _ _ h f0
set_option maxHeartbeats 1000000 in
theorem mf_X3_treeOf_l15 {Q Q' : Int → St → Prop} {σ0 : St} (hq : ∀ (r : Int) (σ1 : St), Q r σ1 → Fr S_X3_treeOf σ0 σ1 → Q' r σ1) : ∀ (n : Nat) (x1 : Int) (x2 : Int) (x3 : Int) (x4 : Int) (σ : St), Fr S_X3_treeOf σ0 σ → wp_X3_treeOf_l15 Q n x1 x2 x3 x4 σ → wp_X3_treeOf_l15 Q' n x1 x2 x3 x4 σ := by
  intro n
  induction n with
  | zero => intro _ _ _ _ _ _ h; exact h.elim
  | succ n ih =>
    intro x1 x2 x3 x4 σ f0 h
    unfold wp_X3_treeOf_l15 at h ⊢
    refine ⟨fun hc => ?_, fun hc => ?_⟩
    · replace h := h.1 hc
      refine ⟨fun hc => ?_, fun hc => ?_⟩
      · replace h := h.1 hc
        exact mf_X3_treeOf_b78 hq f0 h
      · replace h := h.2 hc
        refine ⟨h.1, ?_⟩; replace h := h.2
        refine ⟨fun hc => ?_, fun hc => ?_⟩
        · replace h := h.1 hc
          exact hq _ _ h f0
        · replace h := h.2 hc
          exact mf_X3_treeOf_b78 hq f0 h
    · replace h := h.2 hc
      refine ⟨h.1, ?_⟩; replace h := h.2
      refine ⟨fun hc => ?_, fun hc => ?_⟩
      · replace h := h.1 hc
        exact mf_X3_treeOf_b58 hq ih f0 h
      · replace h := h.2 hc
        refine mf_X0_isInside (fun r4 σ5 h gσ5 => ?_) Fr.rf h
        have fσ5 : Fr S_X3_treeOf σ0 σ5 := f0.tr gσ5 (mkS_sub (by decide) (by decide))
        refine ⟨fun hc => ?_, fun hc => ?_⟩
        · replace h := h.1 hc
          exact mf_X3_treeOf_b58 hq ih fσ5 h
        · replace h := h.2 hc
          refine ⟨h.1, fun σ6 eσ6 => ?_⟩; replace h := h.2 σ6 eσ6; have fσ6 : Fr S_X3_treeOf σ0 σ6 := by rw [eσ6]; exact fσ5.up rfl
          refine mf_X3_growSpan (fun r7 σ8 h gσ8 => ?_) Fr.rf h
          have fσ8 : Fr S_X3_treeOf σ0 σ8 := fσ6.tr gσ8 (mkS_sub (by decide) (by decide))
          exact mf_X3_treeOf_b58 hq ih fσ8 h
set_option maxHeartbeats 1000000 in
theorem mf_X3_treeOf {Q Q' : Int → St → Prop} {σ0 : St} (hq : ∀ (r : Int) (σ1 : St), Q r σ1 → Fr S_X3_treeOf σ0 σ1 → Q' r σ1) {x1 x2 : Int} {σ : St} (f0 : Fr S_X3_treeOf σ0 σ) (h : wp_X3_treeOf x1 x2 σ Q) : wp_X3_treeOf x1 x2 σ Q' := by
  unfold wp_X3_treeOf at h ⊢
  refine mf_X1_prepare (fun r1 σ2 h gσ2 => ?_) Fr.rf h
  have fσ2 : Fr S_X3_treeOf σ0 σ2 := f0.tr gσ2 (mkS_sub (by decide) (by decide))
  intro v3 ev3; replace h := h v3 ev3
  exact mf_X3_treeOf_l15 hq bigN _ _ _ _ _ fσ2 h
set_option maxHeartbeats 1000000 in
theorem mf_X11_best {Q Q' : Int → St → Prop} {σ0 : St} (hq : ∀ (r : Int) (σ1 : St), Q r σ1 → Fr S_X11_best σ0 σ1 → Q' r σ1) {x1 x2 x3 x4 : Int} {σ : St} (f0 : Fr S_X11_best σ0 σ) (h : wp_X11_best x1 x2 x3 x4 σ Q) : wp_X11_best x1 x2 x3 x4 σ Q' := by
  unfold wp_X11_best at h ⊢
  refine mf_X11_itemOf (fun r1 σ2 h gσ2 => ?_) Fr.rf h
  have fσ2 : Fr S_X11_best σ0 σ2 := f0.tr gσ2 (mkS_sub (by decide) (by decide))
  refine ⟨fun hc => ?_, fun hc => ?_⟩
  · replace h := h.1 hc
    exact hq _ _ h fσ2
  · replace h := h.2 hc
    refine mf_X11_isPlace (fun r3 σ4 h gσ4 => ?_) Fr.rf h
    have fσ4 : Fr S_X11_best σ0 σ4 := fσ2.tr gσ4 (mkS_sub (by decide) (by decide))
    refine ⟨fun hc => ?_, fun hc => ?_⟩
    · replace h := h.1 hc
      refine mf_X3_treeOf (fun r5 σ6 h gσ6 => ?_) Fr.rf h
      have fσ6 : Fr S_X11_best σ0 σ6 := fσ4.tr gσ6 (mkS_sub (by decide) (by decide))
      refine ⟨fun hc => ?_, fun hc => ?_⟩
      · replace h := h.1 hc
        refine ⟨h.1, ?_⟩; replace h := h.2
        exact hq _ _ h fσ6
      · replace h := h.2 hc
        exact hq _ _ h fσ6
    · replace h := h.2 hc
      exact hq _ _ h fσ4
set_option maxHeartbeats 1000000 in
theorem mf_X10_push {Q Q' : Int → St → Prop} {σ0 : St} (hq : ∀ (r : Int) (σ1 : St), Q r σ1 → Fr S_X10_push σ0 σ1 → Q' r σ1) {x1 x2 : Int} {σ : St} (f0 : Fr S_X10_push σ0 σ) (h : wp_X10_push x1 x2 σ Q) : wp_X10_push x1 x2 σ Q' := by
  unfold wp_X10_push at h ⊢
  refine ⟨fun hc => ?_, fun hc => ?_⟩
  · replace h := h.1 hc
    exact hq _ _ h f0
  · replace h := h.2 hc
    refine ⟨h.1, fun σ1 eσ1 => ?_⟩; replace h := h.2 σ1 eσ1; have fσ1 : Fr S_X10_push σ0 σ1 := by rw [eσ1]; exact f0.up rfl
    refine ⟨h.1, fun σ2 eσ2 => ?_⟩; replace h := h.2 σ2 eσ2; have fσ2 : Fr S_X10_push σ0 σ2 := by rw [eσ2]; exact fσ1.up rfl
    intro σ3 eσ3; replace h := h σ3 eσ3; have fσ3 : Fr S_X10_push σ0 σ3 := by rw [eσ3]; exact fσ2.up rfl
    exact hq _ _ h fσ3
set_option maxHeartbeats 1000000 in
theorem mf_X3_rightTree {Q Q' : Int → St → Prop} {σ0 : St} (hq : ∀ (r : Int) (σ1 : St), Q r σ1 → Fr S_X3_rightTree σ0 σ1 → Q' r σ1) {x1 : Int} {σ : St} (f0 : Fr S_X3_rightTree σ0 σ) (h : wp_X3_rightTree x1 σ Q) : wp_X3_rightTree x1 σ Q' := by
  unfold wp_X3_rightTree at h ⊢
  refine ⟨h.1, ?_⟩; replace h := h.2
  refine ⟨h.1, ?_⟩; replace h := h.2
  intro v1 ev1; replace h := h v1 ev1
  refine ⟨fun hc => ?_, fun hc => ?_⟩
  · replace h := h.1 hc
    refine ⟨h.1, ?_⟩; replace h := h.2
    exact hq _ _ h f0
  · replace h := h.2 hc
    exact hq _ _ h f0
set_option maxHeartbeats 1000000 in
theorem mf_X10_pushTree {Q Q' : Int → St → Prop} {σ0 : St} (hq : ∀ (r : Int) (σ1 : St), Q r σ1 → Fr S_X10_pushTree σ0 σ1 → Q' r σ1) {x1 x2 : Int} {σ : St} (f0 : Fr S_X10_pushTree σ0 σ) (h : wp_X10_pushTree x1 x2 σ Q) : wp_X10_pushTree x1 x2 σ Q' := by
  unfold wp_X10_pushTree at h ⊢
  refine ⟨fun hc => ?_, fun hc => ?_⟩
  · replace h := h.1 hc
    exact hq _ _ h f0
  · replace h := h.2 hc
    refine mf_X10_push (fun r1 σ2 h gσ2 => ?_) Fr.rf h
    have fσ2 : Fr S_X10_pushTree σ0 σ2 := f0.tr gσ2 (mkS_sub (by decide) (by decide))
    exact hq _ _ h fσ2
set_option maxHeartbeats 1000000 in
theorem mf_X3_leftTree {Q Q' : Int → St → Prop} {σ0 : St} (hq : ∀ (r : Int) (σ1 : St), Q r σ1 → Fr S_X3_leftTree σ0 σ1 → Q' r σ1) {x1 : Int} {σ : St} (f0 : Fr S_X3_leftTree σ0 σ) (h : wp_X3_leftTree x1 σ Q) : wp_X3_leftTree x1 σ Q' := by
  unfold wp_X3_leftTree at h ⊢
  refine ⟨h.1, ?_⟩; replace h := h.2
  refine ⟨h.1, ?_⟩; replace h := h.2
  intro v1 ev1; replace h := h v1 ev1
  refine ⟨fun hc => ?_, fun hc => ?_⟩
  · replace h := h.1 hc
    refine ⟨h.1, ?_⟩; replace h := h.2
    exact hq _ _ h f0
  · replace h := h.2 hc
    exact hq _ _ h f0
set_option maxHeartbeats 1000000 in
theorem mf_X10_follow_l23 {Q Q' : Int → St → Prop} {σ0 : St} (hq : ∀ (r : Int) (σ1 : St), Q r σ1 → Fr S_X10_follow σ0 σ1 → Q' r σ1) : ∀ (n : Nat) (x2 : Int) (σ : St), Fr S_X10_follow σ0 σ → wp_X10_follow_l23 Q n x2 σ → wp_X10_follow_l23 Q' n x2 σ := by
  intro n
  induction n with
  | zero => intro _ _ _ h; exact h.elim
  | succ n ih =>
    intro x2 σ f0 h
    unfold wp_X10_follow_l23 at h ⊢
    refine ⟨fun hc => ?_, fun hc => ?_⟩
    · replace h := h.1 hc
      exact hq _ _ h f0
    · replace h := h.2 hc
      refine ⟨fun hc => ?_, fun hc => ?_⟩
      · replace h := h.1 hc
        exact hq _ _ h f0
      · replace h := h.2 hc
        intro σ6 eσ6; replace h := h σ6 eσ6; have fσ6 : Fr S_X10_follow σ0 σ6 := by rw [eσ6]; exact f0.up rfl
        refine ⟨h.1, ?_⟩; replace h := h.2
        intro v7 ev7; replace h := h v7 ev7
        refine ⟨h.1, ?_⟩; replace h := h.2
        intro v8 ev8; replace h := h v8 ev8
        refine ⟨h.1, fun σ9 eσ9 => ?_⟩; replace h := h.2 σ9 eσ9; have fσ9 : Fr S_X10_follow σ0 σ9 := by rw [eσ9]; exact fσ6.up rfl
        intro σ10 eσ10; replace h := h σ10 eσ10; have fσ10 : Fr S_X10_follow σ0 σ10 := by rw [eσ10]; exact fσ9.up rfl
        intro σ11 eσ11; replace h := h σ11 eσ11; have fσ11 : Fr S_X10_follow σ0 σ11 := by rw [eσ11]; exact fσ10.up rfl
        refine mf_X3_rightTree (fun r12 σ13 h gσ13 => ?_) Fr.rf h
        have fσ13 : Fr S_X10_follow σ0 σ13 := fσ11.tr gσ13 (mkS_sub (by decide) (by decide))
        refine mf_X10_pushTree (fun r14 σ15 h gσ15 => ?_) Fr.rf h
        have fσ15 : Fr S_X10_follow σ0 σ15 := fσ13.tr gσ15 (mkS_sub (by decide) (by decide))
        refine mf_X3_leftTree (fun r16 σ17 h gσ17 => ?_) Fr.rf h
        have fσ17 : Fr S_X10_follow σ0 σ17 := fσ15.tr gσ17 (mkS_sub (by decide) (by decide))
        refine mf_X10_pushTree (fun r18 σ19 h gσ19 => ?_) Fr.rf h
        have fσ19 : Fr S_X10_follow σ0 σ19 := fσ17.tr gσ19 (mkS_sub (by decide) (by decide))
        intro v20 ev20; replace h := h v20 ev20
        exact ih _ _ fσ19 h
set_option maxHeartbeats 1000000 in
theorem mf_X10_follow {Q Q' : Int → St → Prop} {σ0 : St} (hq : ∀ (r : Int) (σ1 : St), Q r σ1 → Fr S_X10_follow σ0 σ1 → Q' r σ1) {x1 : Int} {σ : St} (f0 : Fr S_X10_follow σ0 σ) (h : wp_X10_follow x1 σ Q) : wp_X10_follow x1 σ Q' := by
  unfold wp_X10_follow at h ⊢
  intro σ1 eσ1; replace h := h σ1 eσ1; have fσ1 : Fr S_X10_follow σ0 σ1 := by rw [eσ1]; exact f0.up rfl
  intro σ2 eσ2; replace h := h σ2 eσ2; have fσ2 : Fr S_X10_follow σ0 σ2 := by rw [eσ2]; exact fσ1.up rfl
  intro σ3 eσ3; replace h := h σ3 eσ3; have fσ3 : Fr S_X10_follow σ0 σ3 := by rw [eσ3]; exact fσ2.up rfl
  refine mf_X10_push (fun r4 σ5 h gσ5 => ?_) Fr.rf h
  have fσ5 : Fr S_X10_follow σ0 σ5 := fσ3.tr gσ5 (mkS_sub (by decide) (by decide))
  exact mf_X10_follow_l23 hq bigN _ _ fσ5 h
set_option maxHeartbeats 1000000 in
theorem mf_X11_size {Q Q' : Int → St → Prop} {σ0 : St} (hq : ∀ (r : Int) (σ1 : St), Q r σ1 → Fr S_X11_size σ0 σ1 → Q' r σ1) {x1 x2 x3 x4 x5 : Int} {σ : St} (f0 : Fr S_X11_size σ0 σ) (h : wp_X11_size x1 x2 x3 x4 x5 σ Q) : wp_X11_size x1 x2 x3 x4 x5 σ Q' := by
  unfold wp_X11_size at h ⊢
  refine mf_X11_itemOf (fun r1 σ2 h gσ2 => ?_) Fr.rf h
  have fσ2 : Fr S_X11_size σ0 σ2 := f0.tr gσ2 (mkS_sub (by decide) (by decide))
  refine ⟨fun hc => ?_, fun hc => ?_⟩
  · replace h := h.1 hc
    exact hq _ _ h fσ2
  · replace h := h.2 hc
    refine mf_X11_isPlace (fun r3 σ4 h gσ4 => ?_) Fr.rf h
    have fσ4 : Fr S_X11_size σ0 σ4 := fσ2.tr gσ4 (mkS_sub (by decide) (by decide))
    refine ⟨fun hc => ?_, fun hc => ?_⟩
    · replace h := h.1 hc
      exact hq _ _ h fσ4
    · replace h := h.2 hc
      refine ⟨fun hc => ?_, fun hc => ?_⟩
      · replace h := h.1 hc
        exact hq _ _ h fσ4
      · replace h := h.2 hc
        refine ⟨fun hc => ?_, fun hc => ?_⟩
        · replace h := h.1 hc
          refine mf_X3_treeOf (fun r5 σ6 h gσ6 => ?_) Fr.rf h
          have fσ6 : Fr S_X11_size σ0 σ6 := fσ4.tr gσ6 (mkS_sub (by decide) (by decide))
          refine ⟨fun hc => ?_, fun hc => ?_⟩
          · replace h := h.1 hc
            refine mf_X10_follow (fun r7 σ8 h gσ8 => ?_) Fr.rf h
            have fσ8 : Fr S_X11_size σ0 σ8 := fσ6.tr gσ8 (mkS_sub (by decide) (by decide))
            refine ⟨fun hc => ?_, fun hc => ?_⟩
            · replace h := h.1 hc
              exact hq _ _ h fσ8
            · replace h := h.2 hc
              exact hq _ _ h fσ8
          · replace h := h.2 hc
            exact hq _ _ h fσ6
        · replace h := h.2 hc
          exact hq _ _ h fσ4
set_option maxHeartbeats 1000000 in
theorem mf_X10_caseAt {Q Q' : Int → St → Prop} {σ0 : St} (hq : ∀ (r : Int) (σ1 : St), Q r σ1 → Fr S_X10_caseAt σ0 σ1 → Q' r σ1) {x1 : Int} {σ : St} (f0 : Fr S_X10_caseAt σ0 σ) (h : wp_X10_caseAt x1 σ Q) : wp_X10_caseAt x1 σ Q' := by
  unfold wp_X10_caseAt at h ⊢
  refine ⟨h.1, ?_⟩; replace h := h.2
  refine ⟨h.1, ?_⟩; replace h := h.2
  exact hq _ _ h f0
set_option maxHeartbeats 1000000 in
theorem mf_X10_ruleOf_b12 {Q Q' : Int → St → Prop} {σ0 : St} (hq : ∀ (r : Int) (σ1 : St), Q r σ1 → Fr S_X10_ruleOf σ0 σ1 → Q' r σ1) {σ : St} (f0 : Fr S_X10_ruleOf σ0 σ) (h : wp_X10_ruleOf_b12 Q  σ) : wp_X10_ruleOf_b12 Q'  σ := by
  unfold wp_X10_ruleOf_b12 at h ⊢
  exact hq _ _ h f0
set_option maxHeartbeats 1000000 in
theorem mf_X10_ruleOf {Q Q' : Int → St → Prop} {σ0 : St} (hq : ∀ (r : Int) (σ1 : St), Q r σ1 → Fr S_X10_ruleOf σ0 σ1 → Q' r σ1) {x1 : Int} {σ : St} (f0 : Fr S_X10_ruleOf σ0 σ) (h : wp_X10_ruleOf x1 σ Q) : wp_X10_ruleOf x1 σ Q' := by
  unfold wp_X10_ruleOf at h ⊢
  refine ⟨fun hc => ?_, fun hc => ?_⟩
  · replace h := h.1 hc
    exact mf_X10_ruleOf_b12 hq f0 h
  · replace h := h.2 hc
    refine ⟨fun hc => ?_, fun hc => ?_⟩
    · replace h := h.1 hc
      refine mf_X10_caseAt (fun r1 σ2 h gσ2 => ?_) Fr.rf h
      have fσ2 : Fr S_X10_ruleOf σ0 σ2 := f0.tr gσ2 (mkS_sub (by decide) (by decide))
      refine ⟨h.1, ?_⟩; replace h := h.2
      exact hq _ _ h fσ2
    · replace h := h.2 hc
      exact mf_X10_ruleOf_b12 hq f0 h
set_option maxHeartbeats 1000000 in
theorem mf_X11_step {Q Q' : Int → St → Prop} {σ0 : St} (hq : ∀ (r : Int) (σ1 : St), Q r σ1 → Fr S_X11_step σ0 σ1 → Q' r σ1) {x1 x2 x3 x4 x5 : Int} {σ : St} (f0 : Fr S_X11_step σ0 σ) (h : wp_X11_step x1 x2 x3 x4 x5 σ Q) : wp_X11_step x1 x2 x3 x4 x5 σ Q' := by
  unfold wp_X11_step at h ⊢
  refine mf_X11_itemOf (fun r1 σ2 h gσ2 => ?_) Fr.rf h
  have fσ2 : Fr S_X11_step σ0 σ2 := f0.tr gσ2 (mkS_sub (by decide) (by decide))
  refine ⟨fun hc => ?_, fun hc => ?_⟩
  · replace h := h.1 hc
    exact hq _ _ h fσ2
  · replace h := h.2 hc
    refine mf_X11_isPlace (fun r3 σ4 h gσ4 => ?_) Fr.rf h
    have fσ4 : Fr S_X11_step σ0 σ4 := fσ2.tr gσ4 (mkS_sub (by decide) (by decide))
    refine ⟨fun hc => ?_, fun hc => ?_⟩
    · replace h := h.1 hc
      exact hq _ _ h fσ4
    · replace h := h.2 hc
      refine ⟨fun hc => ?_, fun hc => ?_⟩
      · replace h := h.1 hc
        refine mf_X3_treeOf (fun r5 σ6 h gσ6 => ?_) Fr.rf h
        have fσ6 : Fr S_X11_step σ0 σ6 := fσ4.tr gσ6 (mkS_sub (by decide) (by decide))
        refine ⟨fun hc => ?_, fun hc => ?_⟩
        · replace h := h.1 hc
          refine mf_X10_follow (fun r7 σ8 h gσ8 => ?_) Fr.rf h
          have fσ8 : Fr S_X11_step σ0 σ8 := fσ6.tr gσ8 (mkS_sub (by decide) (by decide))
          refine mf_X10_ruleOf (fun r9 σ10 h gσ10 => ?_) Fr.rf h
          have fσ10 : Fr S_X11_step σ0 σ10 := fσ8.tr gσ10 (mkS_sub (by decide) (by decide))
          exact hq _ _ h fσ10
        · replace h := h.2 hc
          exact hq _ _ h fσ6
      · replace h := h.2 hc
        exact hq _ _ h fσ4
set_option maxHeartbeats 1000000 in
theorem mf_X11_wholeItem {Q Q' : Int → St → Prop} {σ0 : St} (hq : ∀ (r : Int) (σ1 : St), Q r σ1 → Fr S_X11_wholeItem σ0 σ1 → Q' r σ1) {σ : St} (f0 : Fr S_X11_wholeItem σ0 σ) (h : wp_X11_wholeItem  σ Q) : wp_X11_wholeItem  σ Q' := by
  unfold wp_X11_wholeItem at h ⊢
  refine ⟨fun hc => ?_, fun hc => ?_⟩
  · replace h := h.1 hc
    refine mf_X4_start (fun r1 σ2 h gσ2 => ?_) Fr.rf h
    have fσ2 : Fr S_X11_wholeItem σ0 σ2 := f0.tr gσ2 (mkS_sub (by decide) (by decide))
    refine mf_X11_itemOf (fun r3 σ4 h gσ4 => ?_) Fr.rf h
    have fσ4 : Fr S_X11_wholeItem σ0 σ4 := fσ2.tr gσ4 (mkS_sub (by decide) (by decide))
    exact hq _ _ h fσ4
  · replace h := h.2 hc
    exact hq _ _ h f0
set_option maxHeartbeats 1000000 in
theorem mf_X10_beginOf_b12 {Q Q' : Int → St → Prop} {σ0 : St} (hq : ∀ (r : Int) (σ1 : St), Q r σ1 → Fr S_X10_beginOf σ0 σ1 → Q' r σ1) {σ : St} (f0 : Fr S_X10_beginOf σ0 σ) (h : wp_X10_beginOf_b12 Q  σ) : wp_X10_beginOf_b12 Q'  σ := by
  unfold wp_X10_beginOf_b12 at h ⊢
  exact hq _ _ h f0
set_option maxHeartbeats 1000000 in
theorem mf_X10_beginOf {Q Q' : Int → St → Prop} {σ0 : St} (hq : ∀ (r : Int) (σ1 : St), Q r σ1 → Fr S_X10_beginOf σ0 σ1 → Q' r σ1) {x1 : Int} {σ : St} (f0 : Fr S_X10_beginOf σ0 σ) (h : wp_X10_beginOf x1 σ Q) : wp_X10_beginOf x1 σ Q' := by
  unfold wp_X10_beginOf at h ⊢
  refine ⟨fun hc => ?_, fun hc => ?_⟩
  · replace h := h.1 hc
    exact mf_X10_beginOf_b12 hq f0 h
  · replace h := h.2 hc
    refine ⟨fun hc => ?_, fun hc => ?_⟩
    · replace h := h.1 hc
      refine ⟨h.1, ?_⟩; replace h := h.2
      refine mf_X0_beginOf (fun r1 σ2 h gσ2 => ?_) Fr.rf h
      have fσ2 : Fr S_X10_beginOf σ0 σ2 := f0.tr gσ2 (mkS_sub (by decide) (by decide))
      exact hq _ _ h fσ2
    · replace h := h.2 hc
      exact mf_X10_beginOf_b12 hq f0 h
set_option maxHeartbeats 1000000 in
theorem mf_X10_middleOf_b12 {Q Q' : Int → St → Prop} {σ0 : St} (hq : ∀ (r : Int) (σ1 : St), Q r σ1 → Fr S_X10_middleOf σ0 σ1 → Q' r σ1) {σ : St} (f0 : Fr S_X10_middleOf σ0 σ) (h : wp_X10_middleOf_b12 Q  σ) : wp_X10_middleOf_b12 Q'  σ := by
  unfold wp_X10_middleOf_b12 at h ⊢
  exact hq _ _ h f0
set_option maxHeartbeats 1000000 in
theorem mf_X10_middleOf {Q Q' : Int → St → Prop} {σ0 : St} (hq : ∀ (r : Int) (σ1 : St), Q r σ1 → Fr S_X10_middleOf σ0 σ1 → Q' r σ1) {x1 : Int} {σ : St} (f0 : Fr S_X10_middleOf σ0 σ) (h : wp_X10_middleOf x1 σ Q) : wp_X10_middleOf x1 σ Q' := by
  unfold wp_X10_middleOf at h ⊢
  refine ⟨fun hc => ?_, fun hc => ?_⟩
  · replace h := h.1 hc
    exact mf_X10_middleOf_b12 hq f0 h
  · replace h := h.2 hc
    refine ⟨fun hc => ?_, fun hc => ?_⟩
    · replace h := h.1 hc
      refine mf_X10_caseAt (fun r1 σ2 h gσ2 => ?_) Fr.rf h
      have fσ2 : Fr S_X10_middleOf σ0 σ2 := f0.tr gσ2 (mkS_sub (by decide) (by decide))
      refine ⟨h.1, ?_⟩; replace h := h.2
      exact hq _ _ h fσ2
    · replace h := h.2 hc
      exact mf_X10_middleOf_b12 hq f0 h
set_option maxHeartbeats 1000000 in
theorem mf_X10_finishOf_b12 {Q Q' : Int → St → Prop} {σ0 : St} (hq : ∀ (r : Int) (σ1 : St), Q r σ1 → Fr S_X10_finishOf σ0 σ1 → Q' r σ1) {σ : St} (f0 : Fr S_X10_finishOf σ0 σ) (h : wp_X10_finishOf_b12 Q  σ) : wp_X10_finishOf_b12 Q'  σ := by
  unfold wp_X10_finishOf_b12 at h ⊢
  exact hq _ _ h f0
set_option maxHeartbeats 1000000 in
theorem mf_X10_finishOf {Q Q' : Int → St → Prop} {σ0 : St} (hq : ∀ (r : Int) (σ1 : St), Q r σ1 → Fr S_X10_finishOf σ0 σ1 → Q' r σ1) {x1 : Int} {σ : St} (f0 : Fr S_X10_finishOf σ0 σ) (h : wp_X10_finishOf x1 σ Q) : wp_X10_finishOf x1 σ Q' := by
  unfold wp_X10_finishOf at h ⊢
  refine ⟨fun hc => ?_, fun hc => ?_⟩
  · replace h := h.1 hc
    exact mf_X10_finishOf_b12 hq f0 h
  · replace h := h.2 hc
    refine ⟨fun hc => ?_, fun hc => ?_⟩
    · replace h := h.1 hc
      refine ⟨h.1, ?_⟩; replace h := h.2
      refine mf_X0_finishOf (fun r1 σ2 h gσ2 => ?_) Fr.rf h
      have fσ2 : Fr S_X10_finishOf σ0 σ2 := f0.tr gσ2 (mkS_sub (by decide) (by decide))
      exact hq _ _ h fσ2
    · replace h := h.2 hc
      exact mf_X10_finishOf_b12 hq f0 h
set_option maxHeartbeats 1000000 in
theorem mf_X11_bounds_b48 {Q Q' : Int → St → Prop} {σ0 : St} (hq : ∀ (r : Int) (σ1 : St), Q r σ1 → Fr S_X11_bounds σ0 σ1 → Q' r σ1) {x2 x3 s0 : Int} {σ : St} (f0 : Fr S_X11_bounds σ0 σ) (h : wp_X11_bounds_b48 Q x2 x3 s0 σ) : wp_X11_bounds_b48 Q' x2 x3 s0 σ := by
  unfold wp_X11_bounds_b48 at h ⊢
  refine ⟨fun hc => ?_, fun hc => ?_⟩
  · replace h := h.1 hc
    refine mf_X10_follow (fun r7 σ8 h gσ8 => ?_) Fr.rf h
    have fσ8 : Fr S_X11_bounds σ0 σ8 := f0.tr gσ8 (mkS_sub (by decide) (by decide))
    refine ⟨fun hc => ?_, fun hc => ?_⟩
    · replace h := h.1 hc
      refine ⟨fun hs0 => ?_, fun hs1 => ?_, fun hs2 => ?_⟩
      · replace h := h.1 hs0
        refine mf_X10_beginOf (fun r9 σ10 h gσ10 => ?_) Fr.rf h
        have fσ10 : Fr S_X11_bounds σ0 σ10 := fσ8.tr gσ10 (mkS_sub (by decide) (by decide))
        exact hq _ _ h fσ10
      · replace h := h.2.1 hs1
        refine mf_X10_middleOf (fun r11 σ12 h gσ12 => ?_) Fr.rf h
        have fσ12 : Fr S_X11_bounds σ0 σ12 := fσ8.tr gσ12 (mkS_sub (by decide) (by decide))
        exact hq _ _ h fσ12
      · replace h := h.2.2 hs2
        refine mf_X10_finishOf (fun r13 σ14 h gσ14 => ?_) Fr.rf h
        have fσ14 : Fr S_X11_bounds σ0 σ14 := fσ8.tr gσ14 (mkS_sub (by decide) (by decide))
        exact hq _ _ h fσ14
    · replace h := h.2 hc
      exact hq _ _ h fσ8
  · replace h := h.2 hc
    exact hq _ _ h f0
set_option maxHeartbeats 1000000 in
theorem mf_X11_bounds {Q Q' : Int → St → Prop} {σ0 : St} (hq : ∀ (r : Int) (σ1 : St), Q r σ1 → Fr S_X11_bounds σ0 σ1 → Q' r σ1) {x1 x2 x3 : Int} {σ : St} (f0 : Fr S_X11_bounds σ0 σ) (h : wp_X11_bounds x1 x2 x3 σ Q) : wp_X11_bounds x1 x2 x3 σ Q' := by
  unfold wp_X11_bounds at h ⊢
  refine mf_X11_isPlace (fun r1 σ2 h gσ2 => ?_) Fr.rf h
  have fσ2 : Fr S_X11_bounds σ0 σ2 := f0.tr gσ2 (mkS_sub (by decide) (by decide))
  refine ⟨fun hc => ?_, fun hc => ?_⟩
  · replace h := h.1 hc
    exact hq _ _ h fσ2
  · replace h := h.2 hc
    refine ⟨fun hc => ?_, fun hc => ?_⟩
    · replace h := h.1 hc
      exact hq _ _ h fσ2
    · replace h := h.2 hc
      refine ⟨fun hc => ?_, fun hc => ?_⟩
      · replace h := h.1 hc
        exact hq _ _ h fσ2
      · replace h := h.2 hc
        refine ⟨fun hc => ?_, fun hc => ?_⟩
        · replace h := h.1 hc
          refine mf_X11_wholeItem (fun r3 σ4 h gσ4 => ?_) Fr.rf h
          have fσ4 : Fr S_X11_bounds σ0 σ4 := fσ2.tr gσ4 (mkS_sub (by decide) (by decide))
          refine ⟨fun hc => ?_, fun hc => ?_⟩
          · replace h := h.1 hc
            refine mf_X3_treeOf (fun r5 σ6 h gσ6 => ?_) Fr.rf h
            have fσ6 : Fr S_X11_bounds σ0 σ6 := fσ4.tr gσ6 (mkS_sub (by decide) (by decide))
            exact mf_X11_bounds_b48 hq fσ6 h
          · replace h := h.2 hc
            exact mf_X11_bounds_b48 hq fσ4 h
        · replace h := h.2 hc
          exact hq _ _ h fσ2
set_option maxHeartbeats 1000000 in
theorem mf_X10_put_c2 {Q Q' : Int → St → Prop} {σ0 : St} (hq : ∀ (r : Int) (σ1 : St), Q r σ1 → Fr S_X10_put_c2 σ0 σ1 → Q' r σ1) {x2 : Int} {σ : St} (f0 : Fr S_X10_put_c2 σ0 σ) (h : wp_X10_put_c2 x2 σ Q) : wp_X10_put_c2 x2 σ Q' := by
  unfold wp_X10_put_c2 at h ⊢
  refine ⟨fun hc => ?_, fun hc => ?_⟩
  · replace h := h.1 hc
    exact hq _ _ h f0
  · replace h := h.2 hc
    refine ⟨h.1, fun σ1 eσ1 => ?_⟩; replace h := h.2 σ1 eσ1; have fσ1 : Fr S_X10_put_c2 σ0 σ1 := by rw [eσ1]; exact f0.up rfl
    intro σ2 eσ2; replace h := h σ2 eσ2; have fσ2 : Fr S_X10_put_c2 σ0 σ2 := by rw [eσ2]; exact fσ1.up rfl
    exact hq _ _ h fσ2
set_option maxHeartbeats 1000000 in
theorem mf_X10_pushPart_b17 {Q Q' : Int → St → Prop} {σ0 : St} (hq : ∀ (r : Int) (σ1 : St), Q r σ1 → Fr S_X10_pushPart σ0 σ1 → Q' r σ1) {s0 : Int} {σ : St} (f0 : Fr S_X10_pushPart σ0 σ) (h : wp_X10_pushPart_b17 Q s0 σ) : wp_X10_pushPart_b17 Q' s0 σ := by
  unfold wp_X10_pushPart_b17 at h ⊢
  refine mf_X10_push (fun r1 σ2 h gσ2 => ?_) Fr.rf h
  have fσ2 : Fr S_X10_pushPart σ0 σ2 := f0.tr gσ2 (mkS_sub (by decide) (by decide))
  refine mf_X10_push (fun r3 σ4 h gσ4 => ?_) Fr.rf h
  have fσ4 : Fr S_X10_pushPart σ0 σ4 := fσ2.tr gσ4 (mkS_sub (by decide) (by decide))
  exact hq _ _ h fσ4
set_option maxHeartbeats 1000000 in
theorem mf_X10_pushPart {Q Q' : Int → St → Prop} {σ0 : St} (hq : ∀ (r : Int) (σ1 : St), Q r σ1 → Fr S_X10_pushPart σ0 σ1 → Q' r σ1) {x1 x2 : Int} {σ : St} (f0 : Fr S_X10_pushPart σ0 σ) (h : wp_X10_pushPart x1 x2 σ Q) : wp_X10_pushPart x1 x2 σ Q' := by
  unfold wp_X10_pushPart at h ⊢
  refine ⟨fun hc => ?_, fun hc => ?_⟩
  · replace h := h.1 hc
    exact mf_X10_pushPart_b17 hq f0 h
  · replace h := h.2 hc
    exact mf_X10_pushPart_b17 hq f0 h
set_option maxHeartbeats 1000000 in
theorem mf_X10_open_c2_b83 {Q Q' : Int → St → Prop} {σ0 : St} (hq : ∀ (r : Int) (σ1 : St), Q r σ1 → Fr S_X10_open_c2 σ0 σ1 → Q' r σ1) {x2 x3 : Int} {σ : St} (f0 : Fr S_X10_open_c2 σ0 σ) (h : wp_X10_open_c2_b83 Q x2 x3 σ) : wp_X10_open_c2_b83 Q' x2 x3 σ := by
  unfold wp_X10_open_c2_b83 at h ⊢
  refine mf_X3_leftTree (fun r12 σ13 h gσ13 => ?_) Fr.rf h
  have fσ13 : Fr S_X10_open_c2 σ0 σ13 := f0.tr gσ13 (mkS_sub (by decide) (by decide))
  refine ⟨h.1, ?_⟩; replace h := h.2
  refine mf_X10_pushPart (fun r14 σ15 h gσ15 => ?_) Fr.rf h
  have fσ15 : Fr S_X10_open_c2 σ0 σ15 := fσ13.tr gσ15 (mkS_sub (by decide) (by decide))
  exact hq _ _ h fσ15
set_option maxHeartbeats 1000000 in
theorem mf_X10_open_c2 {Q Q' : Int → St → Prop} {σ0 : St} (hq : ∀ (r : Int) (σ1 : St), Q r σ1 → Fr S_X10_open_c2 σ0 σ1 → Q' r σ1) {x2 : Int} {σ : St} (f0 : Fr S_X10_open_c2 σ0 σ) (h : wp_X10_open_c2 x2 σ Q) : wp_X10_open_c2 x2 σ Q' := by
  unfold wp_X10_open_c2 at h ⊢
  refine ⟨h.1, ?_⟩; replace h := h.2
  refine ⟨h.1, ?_⟩; replace h := h.2
  intro v1 ev1; replace h := h v1 ev1
  refine mf_X10_put_c2 (fun r2 σ3 h gσ3 => ?_) Fr.rf h
  have fσ3 : Fr S_X10_open_c2 σ0 σ3 := f0.tr gσ3 (mkS_sub (by decide) (by decide))
  refine ⟨h.1, ?_⟩; replace h := h.2
  refine mf_X10_put_c2 (fun r4 σ5 h gσ5 => ?_) Fr.rf h
  have fσ5 : Fr S_X10_open_c2 σ0 σ5 := fσ3.tr gσ5 (mkS_sub (by decide) (by decide))
  refine mf_X10_push (fun r6 σ7 h gσ7 => ?_) Fr.rf h
  have fσ7 : Fr S_X10_open_c2 σ0 σ7 := fσ5.tr gσ7 (mkS_sub (by decide) (by decide))
  refine ⟨h.1, ?_⟩; replace h := h.2
  refine ⟨fun hc => ?_, fun hc => ?_⟩
  · replace h := h.1 hc
    exact mf_X10_open_c2_b83 hq fσ7 h
  · replace h := h.2 hc
    refine mf_X3_rightTree (fun r8 σ9 h gσ9 => ?_) Fr.rf h
    have fσ9 : Fr S_X10_open_c2 σ0 σ9 := fσ7.tr gσ9 (mkS_sub (by decide) (by decide))
    refine ⟨h.1, ?_⟩; replace h := h.2
    refine mf_X10_pushPart (fun r10 σ11 h gσ11 => ?_) Fr.rf h
    have fσ11 : Fr S_X10_open_c2 σ0 σ11 := fσ9.tr gσ11 (mkS_sub (by decide) (by decide))
    exact mf_X10_open_c2_b83 hq fσ11 h
set_option maxHeartbeats 1000000 in
theorem mf_X10_write_c2_b76 {Q Q' : Int → St → Prop} {σ0 : St} (hq : ∀ (r : Int) (σ1 : St), Q r σ1 → Fr S_X10_write_c2 σ0 σ1 → Q' r σ1) {K18 K18' : Int → St → Prop} (hK18 : ∀ (x3 : Int) (σ : St), Fr S_X10_write_c2 σ0 σ → K18 x3 σ → K18' x3 σ) {x3 : Int} {σ : St} (f0 : Fr S_X10_write_c2 σ0 σ) (h : wp_X10_write_c2_b76 Q K18 x3 σ) : wp_X10_write_c2_b76 Q' K18' x3 σ := by
  unfold wp_X10_write_c2_b76 at h ⊢
  intro v11 ev11; replace h := h v11 ev11
  exact hK18 _ _ f0 h
set_option maxHeartbeats 1000000 in
theorem mf_X10_write_c2_l18 {Q Q' : Int → St → Prop} {σ0 : St} (hq : ∀ (r : Int) (σ1 : St), Q r σ1 → Fr S_X10_write_c2 σ0 σ1 → Q' r σ1) : ∀ (n : Nat) (x3 : Int) (σ : St), Fr S_X10_write_c2 σ0 σ → wp_X10_write_c2_l18 Q n x3 σ → wp_X10_write_c2_l18 Q' n x3 σ := by
  intro n
  induction n with
  | zero => intro _ _ _ h; exact h.elim
  | succ n ih =>
    intro x3 σ f0 h
    unfold wp_X10_write_c2_l18 at h ⊢
    refine ⟨fun hc => ?_, fun hc => ?_⟩
    · replace h := h.1 hc
      exact hq _ _ h f0
    · replace h := h.2 hc
      refine ⟨fun hc => ?_, fun hc => ?_⟩
      · replace h := h.1 hc
        exact hq _ _ h f0
      · replace h := h.2 hc
        intro σ5 eσ5; replace h := h σ5 eσ5; have fσ5 : Fr S_X10_write_c2 σ0 σ5 := by rw [eσ5]; exact f0.up rfl
        refine ⟨h.1, ?_⟩; replace h := h.2
        intro v6 ev6; replace h := h v6 ev6
        refine ⟨fun hc => ?_, fun hc => ?_⟩
        · replace h := h.1 hc
          refine mf_X10_open_c2 (fun r7 σ8 h gσ8 => ?_) Fr.rf h
          have fσ8 : Fr S_X10_write_c2 σ0 σ8 := fσ5.tr gσ8 (mkS_sub (by decide) (by decide))
          exact mf_X10_write_c2_b76 hq ih fσ8 h
        · replace h := h.2 hc
          refine mf_X10_put_c2 (fun r9 σ10 h gσ10 => ?_) Fr.rf h
          have fσ10 : Fr S_X10_write_c2 σ0 σ10 := fσ5.tr gσ10 (mkS_sub (by decide) (by decide))
          exact mf_X10_write_c2_b76 hq ih fσ10 h
set_option maxHeartbeats 1000000 in
theorem mf_X10_write_c2 {Q Q' : Int → St → Prop} {σ0 : St} (hq : ∀ (r : Int) (σ1 : St), Q r σ1 → Fr S_X10_write_c2 σ0 σ1 → Q' r σ1) {x1 : Int} {σ : St} (f0 : Fr S_X10_write_c2 σ0 σ) (h : wp_X10_write_c2 x1 σ Q) : wp_X10_write_c2 x1 σ Q' := by
  unfold wp_X10_write_c2 at h ⊢
  intro σ1 eσ1; replace h := h σ1 eσ1; have fσ1 : Fr S_X10_write_c2 σ0 σ1 := by rw [eσ1]; exact f0.up rfl
  intro σ2 eσ2; replace h := h σ2 eσ2; have fσ2 : Fr S_X10_write_c2 σ0 σ2 := by rw [eσ2]; exact fσ1.up rfl
  refine mf_X10_push (fun r3 σ4 h gσ4 => ?_) Fr.rf h
  have fσ4 : Fr S_X10_write_c2 σ0 σ4 := fσ2.tr gσ4 (mkS_sub (by decide) (by decide))
  exact mf_X10_write_c2_l18 hq bigN _ _ fσ4 h
set_option maxHeartbeats 1000000 in
theorem mf_X11_tell {Q Q' : Int → St → Prop} {σ0 : St} (hq : ∀ (r : Int) (σ1 : St), Q r σ1 → Fr S_X11_tell σ0 σ1 → Q' r σ1) {x1 x2 x3 x4 : Int} {σ : St} (f0 : Fr S_X11_tell σ0 σ) (h : wp_X11_tell x1 x2 x3 x4 σ Q) : wp_X11_tell x1 x2 x3 x4 σ Q' := by
  unfold wp_X11_tell at h ⊢
  refine mf_X11_itemOf (fun r1 σ2 h gσ2 => ?_) Fr.rf h
  have fσ2 : Fr S_X11_tell σ0 σ2 := f0.tr gσ2 (mkS_sub (by decide) (by decide))
  refine ⟨fun hc => ?_, fun hc => ?_⟩
  · replace h := h.1 hc
    exact hq _ _ h fσ2
  · replace h := h.2 hc
    refine mf_X11_isPlace (fun r3 σ4 h gσ4 => ?_) Fr.rf h
    have fσ4 : Fr S_X11_tell σ0 σ4 := fσ2.tr gσ4 (mkS_sub (by decide) (by decide))
    refine ⟨fun hc => ?_, fun hc => ?_⟩
    · replace h := h.1 hc
      refine mf_X3_treeOf (fun r5 σ6 h gσ6 => ?_) Fr.rf h
      have fσ6 : Fr S_X11_tell σ0 σ6 := fσ4.tr gσ6 (mkS_sub (by decide) (by decide))
      refine ⟨fun hc => ?_, fun hc => ?_⟩
      · replace h := h.1 hc
        refine mf_X10_write_c2 (fun r7 σ8 h gσ8 => ?_) Fr.rf h
        have fσ8 : Fr S_X11_tell σ0 σ8 := fσ6.tr gσ8 (mkS_sub (by decide) (by decide))
        intro σ9 eσ9; replace h := h σ9 eσ9; have fσ9 : Fr S_X11_tell σ0 σ9 := by rw [eσ9]; exact fσ8.up rfl
        exact hq _ _ h fσ9
      · replace h := h.2 hc
        exact hq _ _ h fσ6
    · replace h := h.2 hc
      exact hq _ _ h fσ4
set_option maxHeartbeats 1000000 in
theorem mf_X11_octet_b12 {Q Q' : Int → St → Prop} {σ0 : St} (hq : ∀ (r : Int) (σ1 : St), Q r σ1 → Fr S_X11_octet σ0 σ1 → Q' r σ1) {σ : St} (f0 : Fr S_X11_octet σ0 σ) (h : wp_X11_octet_b12 Q  σ) : wp_X11_octet_b12 Q'  σ := by
  unfold wp_X11_octet_b12 at h ⊢
  exact hq _ _ h f0
set_option maxHeartbeats 1000000 in
theorem mf_X11_octet {Q Q' : Int → St → Prop} {σ0 : St} (hq : ∀ (r : Int) (σ1 : St), Q r σ1 → Fr S_X11_octet σ0 σ1 → Q' r σ1) {x1 : Int} {σ : St} (f0 : Fr S_X11_octet σ0 σ) (h : wp_X11_octet x1 σ Q) : wp_X11_octet x1 σ Q' := by
  unfold wp_X11_octet at h ⊢
  refine ⟨fun hc => ?_, fun hc => ?_⟩
  · replace h := h.1 hc
    exact mf_X11_octet_b12 hq f0 h
  · replace h := h.2 hc
    refine ⟨fun hc => ?_, fun hc => ?_⟩
    · replace h := h.1 hc
      refine ⟨h.1, ?_⟩; replace h := h.2
      exact hq _ _ h f0
    · replace h := h.2 hc
      exact mf_X11_octet_b12 hq f0 h
set_option maxHeartbeats 1000000 in
theorem mf_X8_countPairs_b107 {Q Q' : Int → St → Prop} {σ0 : St} (hq : ∀ (r : Int) (σ1 : St), Q r σ1 → Fr S_X8_countPairs σ0 σ1 → Q' r σ1) {K51 K51' : Int → Int → Int → Int → Int → Int → St → Prop} (hK51 : ∀ (x1 : Int) (x2 : Int) (x3 : Int) (x5 : Int) (x6 : Int) (x8 : Int) (σ : St), Fr S_X8_countPairs σ0 σ → K51 x1 x2 x3 x5 x6 x8 σ → K51' x1 x2 x3 x5 x6 x8 σ) {x1 x2 x3 x5 x6 x8 : Int} {σ : St} (f0 : Fr S_X8_countPairs σ0 σ) (h : wp_X8_countPairs_b107 Q K51 x1 x2 x3 x5 x6 x8 σ) : wp_X8_countPairs_b107 Q' K51' x1 x2 x3 x5 x6 x8 σ := by
  unfold wp_X8_countPairs_b107 at h ⊢
  intro v8 ev8; replace h := h v8 ev8
  exact hK51 _ _ _ _ _ _ _ f0 h
set_option maxHeartbeats 1000000 in
theorem mf_X8_countPairs_l51 {Q Q' : Int → St → Prop} {σ0 : St} (hq : ∀ (r : Int) (σ1 : St), Q r σ1 → Fr S_X8_countPairs σ0 σ1 → Q' r σ1) : ∀ (n : Nat) (x1 : Int) (x2 : Int) (x3 : Int) (x5 : Int) (x6 : Int) (x8 : Int) (σ : St), Fr S_X8_countPairs σ0 σ → wp_X8_countPairs_l51 Q n x1 x2 x3 x5 x6 x8 σ → wp_X8_countPairs_l51 Q' n x1 x2 x3 x5 x6 x8 σ := by
  intro n
  induction n with
  | zero => intro _ _ _ _ _ _ _ _ h; exact h.elim
  | succ n ih =>
    intro x1 x2 x3 x5 x6 x8 σ f0 h
    unfold wp_X8_countPairs_l51 at h ⊢
    refine ⟨fun hc => ?_, fun hc => ?_⟩
    · replace h := h.1 hc
      exact hq _ _ h f0
    · replace h := h.2 hc
      refine ⟨h.1, ?_⟩; replace h := h.2
      intro v3 ev3; replace h := h v3 ev3
      refine ⟨fun hc => ?_, fun hc => ?_⟩
      · replace h := h.1 hc
        exact mf_X8_countPairs_b107 hq ih f0 h
      · replace h := h.2 hc
        refine ⟨h.1, ?_⟩; replace h := h.2
        refine mf_X8_multiply (fun r4 σ5 h gσ5 => ?_) Fr.rf h
        have fσ5 : Fr S_X8_countPairs σ0 σ5 := f0.tr gσ5 (mkS_sub (by decide) (by decide))
        refine mf_X8_add (fun r6 σ7 h gσ7 => ?_) Fr.rf h
        have fσ7 : Fr S_X8_countPairs σ0 σ7 := fσ5.tr gσ7 (mkS_sub (by decide) (by decide))
        exact mf_X8_countPairs_b107 hq ih fσ7 h
set_option maxHeartbeats 1000000 in
theorem mf_X8_countPairs {Q Q' : Int → St → Prop} {σ0 : St} (hq : ∀ (r : Int) (σ1 : St), Q r σ1 → Fr S_X8_countPairs σ0 σ1 → Q' r σ1) {x1 x2 x3 : Int} {σ : St} (f0 : Fr S_X8_countPairs σ0 σ) (h : wp_X8_countPairs x1 x2 x3 σ Q) : wp_X8_countPairs x1 x2 x3 σ Q' := by
  unfold wp_X8_countPairs at h ⊢
  refine ⟨h.1, ?_⟩; replace h := h.2
  refine ⟨h.1, ?_⟩; replace h := h.2
  intro v1 ev1; replace h := h v1 ev1
  refine ⟨h.1, ?_⟩; replace h := h.2
  refine ⟨h.1, ?_⟩; replace h := h.2
  intro v2 ev2; replace h := h v2 ev2
  exact mf_X8_countPairs_l51 hq bigN _ _ _ _ _ _ _ f0 h
set_option maxHeartbeats 1000000 in
theorem mf_X8_countCase_b49 {Q Q' : Int → St → Prop} {σ0 : St} (hq : ∀ (r : Int) (σ1 : St), Q r σ1 → Fr S_X8_countCase σ0 σ1 → Q' r σ1) {x2 x3 x4 : Int} {σ : St} (f0 : Fr S_X8_countCase σ0 σ) (h : wp_X8_countCase_b49 Q x2 x3 x4 σ) : wp_X8_countCase_b49 Q' x2 x3 x4 σ := by
  unfold wp_X8_countCase_b49 at h ⊢
  refine ⟨h.1, ?_⟩; replace h := h.2
  exact hq _ _ h f0
set_option maxHeartbeats 1000000 in
theorem mf_X8_countCase_b40 {Q Q' : Int → St → Prop} {σ0 : St} (hq : ∀ (r : Int) (σ1 : St), Q r σ1 → Fr S_X8_countCase σ0 σ1 → Q' r σ1) {x2 x3 x4 : Int} {σ : St} (f0 : Fr S_X8_countCase σ0 σ) (h : wp_X8_countCase_b40 Q x2 x3 x4 σ) : wp_X8_countCase_b40 Q' x2 x3 x4 σ := by
  unfold wp_X8_countCase_b40 at h ⊢
  refine ⟨fun hc => ?_, fun hc => ?_⟩
  · replace h := h.1 hc
    exact mf_X8_countCase_b49 hq f0 h
  · replace h := h.2 hc
    refine ⟨fun hc => ?_, fun hc => ?_⟩
    · replace h := h.1 hc
      refine mf_X8_countPairs (fun r3 σ4 h gσ4 => ?_) Fr.rf h
      have fσ4 : Fr S_X8_countCase σ0 σ4 := f0.tr gσ4 (mkS_sub (by decide) (by decide))
      exact hq _ _ h fσ4
    · replace h := h.2 hc
      exact mf_X8_countCase_b49 hq f0 h
set_option maxHeartbeats 1000000 in
theorem mf_X8_countCase {Q Q' : Int → St → Prop} {σ0 : St} (hq : ∀ (r : Int) (σ1 : St), Q r σ1 → Fr S_X8_countCase σ0 σ1 → Q' r σ1) {x1 x2 : Int} {σ : St} (f0 : Fr S_X8_countCase σ0 σ) (h : wp_X8_countCase x1 x2 σ Q) : wp_X8_countCase x1 x2 σ Q' := by
  unfold wp_X8_countCase at h ⊢
  refine ⟨h.1, ?_⟩; replace h := h.2
  intro v1 ev1; replace h := h v1 ev1
  refine ⟨h.1, ?_⟩; replace h := h.2
  intro v2 ev2; replace h := h v2 ev2
  refine ⟨fun hc => ?_, fun hc => ?_⟩
  · replace h := h.1 hc
    exact mf_X8_countCase_b40 hq f0 h
  · replace h := h.2 hc
    refine ⟨fun hc => ?_, fun hc => ?_⟩
    · replace h := h.1 hc
      exact mf_X8_countCase_b40 hq f0 h
    · replace h := h.2 hc
      refine ⟨fun hc => ?_, fun hc => ?_⟩
      · replace h := h.1 hc
        exact hq _ _ h f0
      · replace h := h.2 hc
        exact hq _ _ h f0
set_option maxHeartbeats 1000000 in
theorem mf_X8_countItem_b116 {Q Q' : Int → St → Prop} {σ0 : St} (hq : ∀ (r : Int) (σ1 : St), Q r σ1 → Fr S_X8_countItem σ0 σ1 → Q' r σ1) {K51 K51' : Int → Int → Int → Int → St → Prop} (hK51 : ∀ (x1 : Int) (x2 : Int) (x3 : Int) (x5 : Int) (σ : St), Fr S_X8_countItem σ0 σ → K51 x1 x2 x3 x5 σ → K51' x1 x2 x3 x5 σ) {x1 x2 x3 x5 : Int} {σ : St} (f0 : Fr S_X8_countItem σ0 σ) (h : wp_X8_countItem_b116 Q K51 x1 x2 x3 x5 σ) : wp_X8_countItem_b116 Q' K51' x1 x2 x3 x5 σ := by
  unfold wp_X8_countItem_b116 at h ⊢
  intro v14 ev14; replace h := h v14 ev14
  exact hK51 _ _ _ _ _ f0 h
set_option maxHeartbeats 1000000 in
theorem mf_X8_countItem_l51 {Q Q' : Int → St → Prop} {σ0 : St} (hq : ∀ (r : Int) (σ1 : St), Q r σ1 → Fr S_X8_countItem σ0 σ1 → Q' r σ1) : ∀ (n : Nat) (x1 : Int) (x2 : Int) (x3 : Int) (x5 : Int) (σ : St), Fr S_X8_countItem σ0 σ → wp_X8_countItem_l51 Q n x1 x2 x3 x5 σ → wp_X8_countItem_l51 Q' n x1 x2 x3 x5 σ := by
  intro n
  induction n with
  | zero => intro _ _ _ _ _ _ h; exact h.elim
  | succ n ih =>
    intro x1 x2 x3 x5 σ f0 h
    unfold wp_X8_countItem_l51 at h ⊢
    refine mf_X0_caseEnd (fun r5 σ6 h gσ6 => ?_) Fr.rf h
    have fσ6 : Fr S_X8_countItem σ0 σ6 := f0.tr gσ6 (mkS_sub (by decide) (by decide))
    refine ⟨fun hc => ?_, fun hc => ?_⟩
    · replace h := h.1 hc
      exact hq _ _ h fσ6
    · replace h := h.2 hc
      refine ⟨h.1, ?_⟩; replace h := h.2
      refine ⟨h.1, ?_⟩; replace h := h.2
      intro v7 ev7; replace h := h v7 ev7
      refine ⟨fun hc => ?_, fun hc => ?_⟩
      · replace h := h.1 hc
        exact mf_X8_countItem_b116 hq ih fσ6 h
      · replace h := h.2 hc
        refine mf_X1_isFull (fun r8 σ9 h gσ9 => ?_) Fr.rf h
        have fσ9 : Fr S_X8_countItem σ0 σ9 := fσ6.tr gσ9 (mkS_sub (by decide) (by decide))
        refine ⟨fun hc => ?_, fun hc => ?_⟩
        · replace h := h.1 hc
          exact mf_X8_countItem_b116 hq ih fσ9 h
        · replace h := h.2 hc
          refine mf_X8_countCase (fun r10 σ11 h gσ11 => ?_) Fr.rf h
          have fσ11 : Fr S_X8_countItem σ0 σ11 := fσ9.tr gσ11 (mkS_sub (by decide) (by decide))
          refine mf_X8_add (fun r12 σ13 h gσ13 => ?_) Fr.rf h
          have fσ13 : Fr S_X8_countItem σ0 σ13 := fσ11.tr gσ13 (mkS_sub (by decide) (by decide))
          exact mf_X8_countItem_b116 hq ih fσ13 h
set_option maxHeartbeats 1000000 in
theorem mf_X8_countItem {Q Q' : Int → St → Prop} {σ0 : St} (hq : ∀ (r : Int) (σ1 : St), Q r σ1 → Fr S_X8_countItem σ0 σ1 → Q' r σ1) {x1 x2 : Int} {σ : St} (f0 : Fr S_X8_countItem σ0 σ) (h : wp_X8_countItem x1 x2 σ Q) : wp_X8_countItem x1 x2 σ Q' := by
  unfold wp_X8_countItem at h ⊢
  refine mf_X1_has (fun r1 σ2 h gσ2 => ?_) Fr.rf h
  have fσ2 : Fr S_X8_countItem σ0 σ2 := f0.tr gσ2 (mkS_sub (by decide) (by decide))
  refine ⟨fun hc => ?_, fun hc => ?_⟩
  · replace h := h.1 hc
    exact hq _ _ h fσ2
  · replace h := h.2 hc
    refine ⟨h.1, ?_⟩; replace h := h.2
    refine ⟨fun hc => ?_, fun hc => ?_⟩
    · replace h := h.1 hc
      exact hq _ _ h fσ2
    · replace h := h.2 hc
      refine ⟨h.1, ?_⟩; replace h := h.2
      refine ⟨fun hc => ?_, fun hc => ?_⟩
      · replace h := h.1 hc
        refine mf_X0_caseStart (fun r3 σ4 h gσ4 => ?_) Fr.rf h
        have fσ4 : Fr S_X8_countItem σ0 σ4 := fσ2.tr gσ4 (mkS_sub (by decide) (by decide))
        exact mf_X8_countItem_l51 hq bigN _ _ _ _ _ fσ4 h
      · replace h := h.2 hc
        exact hq _ _ h fσ2
set_option maxHeartbeats 1000000 in
theorem mf_X8_countSpan_b102 {Q Q' : Int → St → Prop} {σ0 : St} (hq : ∀ (r : Int) (σ1 : St), Q r σ1 → Fr S_X8_countSpan σ0 σ1 → Q' r σ1) {K15 K15' : Int → Int → Int → Int → St → Prop} (hK15 : ∀ (x1 : Int) (x2 : Int) (x3 : Int) (x4 : Int) (σ : St), Fr S_X8_countSpan σ0 σ → K15 x1 x2 x3 x4 σ → K15' x1 x2 x3 x4 σ) {K32 K32' : Int → Int → Int → Int → Int → St → Prop} (hK32 : ∀ (x1 : Int) (x2 : Int) (x3 : Int) (x4 : Int) (x5 : Int) (σ : St), Fr S_X8_countSpan σ0 σ → K32 x1 x2 x3 x4 x5 σ → K32' x1 x2 x3 x4 x5 σ) {x1 x2 x3 x4 x5 : Int} {σ : St} (f0 : Fr S_X8_countSpan σ0 σ) (h : wp_X8_countSpan_b102 Q K15 K32 x1 x2 x3 x4 x5 σ) : wp_X8_countSpan_b102 Q' K15' K32' x1 x2 x3 x4 x5 σ := by
  unfold wp_X8_countSpan_b102 at h ⊢
  intro v12 ev12; replace h := h v12 ev12
  exact hK32 _ _ _ _ _ _ f0 h
set_option maxHeartbeats 1000000 in
theorem mf_X8_countSpan_l32 {Q Q' : Int → St → Prop} {σ0 : St} (hq : ∀ (r : Int) (σ1 : St), Q r σ1 → Fr S_X8_countSpan σ0 σ1 → Q' r σ1) {K15 K15' : Int → Int → Int → Int → St → Prop} (hK15 : ∀ (x1 : Int) (x2 : Int) (x3 : Int) (x4 : Int) (σ : St), Fr S_X8_countSpan σ0 σ → K15 x1 x2 x3 x4 σ → K15' x1 x2 x3 x4 σ) : ∀ (n : Nat) (x1 : Int) (x2 : Int) (x3 : Int) (x4 : Int) (x5 : Int) (σ : St), Fr S_X8_countSpan σ0 σ → wp_X8_countSpan_l32 Q K15 n x1 x2 x3 x4 x5 σ → wp_X8_countSpan_l32 Q' K15' n x1 x2 x3 x4 x5 σ := by
  intro n
  induction n with
  | zero => intro _ _ _ _ _ _ _ h; exact h.elim
  | succ n ih =>
    intro x1 x2 x3 x4 x5 σ f0 h
    unfold wp_X8_countSpan_l32 at h ⊢
    refine ⟨fun hc => ?_, fun hc => ?_⟩
    · replace h := h.1 hc
      refine ⟨h.1, fun σ3 eσ3 => ?_⟩; replace h := h.2 σ3 eσ3; have fσ3 : Fr S_X8_countSpan σ0 σ3 := by rw [eσ3]; exact f0.up rfl
      intro v4 ev4; replace h := h v4 ev4
      exact hK15 _ _ _ _ _ fσ3 h
    · replace h := h.2 hc
      refine mf_X8_countItem (fun r5 σ6 h gσ6 => ?_) Fr.rf h
      have fσ6 : Fr S_X8_countSpan σ0 σ6 := f0.tr gσ6 (mkS_sub (by decide) (by decide))
      refine ⟨h.1, fun σ7 eσ7 => ?_⟩; replace h := h.2 σ7 eσ7; have fσ7 : Fr S_X8_countSpan σ0 σ7 := by rw [eσ7]; exact fσ6.up rfl
      refine ⟨fun hc => ?_, fun hc => ?_⟩
      · replace h := h.1 hc
        exact mf_X8_countSpan_b102 hq hK15 ih fσ7 h
      · replace h := h.2 hc
        refine ⟨h.1, fun σ8 eσ8 => ?_⟩; replace h := h.2 σ8 eσ8; have fσ8 : Fr S_X8_countSpan σ0 σ8 := by rw [eσ8]; exact fσ7.up rfl
        refine ⟨h.1, ?_⟩; replace h := h.2
        refine mf_X8_add (fun r9 σ10 h gσ10 => ?_) Fr.rf h
        have fσ10 : Fr S_X8_countSpan σ0 σ10 := fσ8.tr gσ10 (mkS_sub (by decide) (by decide))
        refine ⟨h.1, fun σ11 eσ11 => ?_⟩; replace h := h.2 σ11 eσ11; have fσ11 : Fr S_X8_countSpan σ0 σ11 := by rw [eσ11]; exact fσ10.up rfl
        exact mf_X8_countSpan_b102 hq hK15 ih fσ11 h
set_option maxHeartbeats 1000000 in
theorem mf_X8_countSpan_l15 {Q Q' : Int → St → Prop} {σ0 : St} (hq : ∀ (r : Int) (σ1 : St), Q r σ1 → Fr S_X8_countSpan σ0 σ1 → Q' r σ1) : ∀ (n : Nat) (x1 : Int) (x2 : Int) (x3 : Int) (x4 : Int) (σ : St), Fr S_X8_countSpan σ0 σ → wp_X8_countSpan_l15 Q n x1 x2 x3 x4 σ → wp_X8_countSpan_l15 Q' n x1 x2 x3 x4 σ := by
  intro n
  induction n with
  | zero => intro _ _ _ _ _ _ h; exact h.elim
  | succ n ih =>
    intro x1 x2 x3 x4 σ f0 h
    unfold wp_X8_countSpan_l15 at h ⊢
    refine ⟨fun hc => ?_, fun hc => ?_⟩
    · replace h := h.1 hc
      exact hq _ _ h f0
    · replace h := h.2 hc
      refine ⟨fun hc => ?_, fun hc => ?_⟩
      · replace h := h.1 hc
        exact hq _ _ h f0
      · replace h := h.2 hc
        exact mf_X8_countSpan_l32 hq ih bigN _ _ _ _ _ _ f0 h
set_option maxHeartbeats 1000000 in
theorem mf_X8_countSpan {Q Q' : Int → St → Prop} {σ0 : St} (hq : ∀ (r : Int) (σ1 : St), Q r σ1 → Fr S_X8_countSpan σ0 σ1 → Q' r σ1) {x1 x2 : Int} {σ : St} (f0 : Fr S_X8_countSpan σ0 σ) (h : wp_X8_countSpan x1 x2 σ Q) : wp_X8_countSpan x1 x2 σ Q' := by
  unfold wp_X8_countSpan at h ⊢
  intro v1 ev1; replace h := h v1 ev1
  refine ⟨h.1, ?_⟩; replace h := h.2
  intro v2 ev2; replace h := h v2 ev2
  exact mf_X8_countSpan_l15 hq bigN _ _ _ _ _ f0 h
set_option maxHeartbeats 1000000 in
theorem mf_X8_upTo_b56 {Q Q' : Int → St → Prop} {σ0 : St} (hq : ∀ (r : Int) (σ1 : St), Q r σ1 → Fr S_X8_upTo σ0 σ1 → Q' r σ1) {K30 K30' : Int → Int → Int → Int → St → Prop} (hK30 : ∀ (x1 : Int) (x2 : Int) (x3 : Int) (x4 : Int) (σ : St), Fr S_X8_upTo σ0 σ → K30 x1 x2 x3 x4 σ → K30' x1 x2 x3 x4 σ) {x1 x2 x3 x4 : Int} {σ : St} (f0 : Fr S_X8_upTo σ0 σ) (h : wp_X8_upTo_b56 Q K30 x1 x2 x3 x4 σ) : wp_X8_upTo_b56 Q' K30' x1 x2 x3 x4 σ := by
  unfold wp_X8_upTo_b56 at h ⊢
  intro v11 ev11; replace h := h v11 ev11
  exact hK30 _ _ _ _ _ f0 h
set_option maxHeartbeats 1000000 in
theorem mf_X8_upTo_l68 {Q Q' : Int → St → Prop} {σ0 : St} (hq : ∀ (r : Int) (σ1 : St), Q r σ1 → Fr S_X8_upTo σ0 σ1 → Q' r σ1) : ∀ (n : Nat) (x1 : Int) (x2 : Int) (x4 : Int) (x6 : Int) (σ : St), Fr S_X8_upTo σ0 σ → wp_X8_upTo_l68 Q n x1 x2 x4 x6 σ → wp_X8_upTo_l68 Q' n x1 x2 x4 x6 σ := by
  intro n
  induction n with
  | zero => intro _ _ _ _ _ _ h; exact h.elim
  | succ n ih =>
    intro x1 x2 x4 x6 σ f0 h
    unfold wp_X8_upTo_l68 at h ⊢
    refine ⟨fun hc => ?_, fun hc => ?_⟩
    · replace h := h.1 hc
      exact hq _ _ h f0
    · replace h := h.2 hc
      refine ⟨fun hc => ?_, fun hc => ?_⟩
      · replace h := h.1 hc
        exact hq _ _ h f0
      · replace h := h.2 hc
        refine ⟨h.1, ?_⟩; replace h := h.2
        refine mf_X8_add (fun r8 σ9 h gσ9 => ?_) Fr.rf h
        have fσ9 : Fr S_X8_upTo σ0 σ9 := f0.tr gσ9 (mkS_sub (by decide) (by decide))
        intro v10 ev10; replace h := h v10 ev10
        exact ih _ _ _ _ _ fσ9 h
set_option maxHeartbeats 1000000 in
theorem mf_X8_upTo_l30 {Q Q' : Int → St → Prop} {σ0 : St} (hq : ∀ (r : Int) (σ1 : St), Q r σ1 → Fr S_X8_upTo σ0 σ1 → Q' r σ1) : ∀ (n : Nat) (x1 : Int) (x2 : Int) (x3 : Int) (x4 : Int) (σ : St), Fr S_X8_upTo σ0 σ → wp_X8_upTo_l30 Q n x1 x2 x3 x4 σ → wp_X8_upTo_l30 Q' n x1 x2 x3 x4 σ := by
  intro n
  induction n with
  | zero => intro _ _ _ _ _ _ h; exact h.elim
  | succ n ih =>
    intro x1 x2 x3 x4 σ f0 h
    unfold wp_X8_upTo_l30 at h ⊢
    refine ⟨fun hc => ?_, fun hc => ?_⟩
    · replace h := h.1 hc
      exact mf_X8_upTo_l68 hq bigN _ _ _ _ _ f0 h
    · replace h := h.2 hc
      refine mf_X0_isInside (fun r4 σ5 h gσ5 => ?_) Fr.rf h
      have fσ5 : Fr S_X8_upTo σ0 σ5 := f0.tr gσ5 (mkS_sub (by decide) (by decide))
      refine ⟨fun hc => ?_, fun hc => ?_⟩
      · replace h := h.1 hc
        exact mf_X8_upTo_b56 hq ih fσ5 h
      · replace h := h.2 hc
        refine mf_X8_countSpan (fun r6 σ7 h gσ7 => ?_) Fr.rf h
        have fσ7 : Fr S_X8_upTo σ0 σ7 := fσ5.tr gσ7 (mkS_sub (by decide) (by decide))
        exact mf_X8_upTo_b56 hq ih fσ7 h
set_option maxHeartbeats 1000000 in
theorem mf_X8_upTo_b22 {Q Q' : Int → St → Prop} {σ0 : St} (hq : ∀ (r : Int) (σ1 : St), Q r σ1 → Fr S_X8_upTo σ0 σ1 → Q' r σ1) {x1 x2 : Int} {σ : St} (f0 : Fr S_X8_upTo σ0 σ) (h : wp_X8_upTo_b22 Q x1 x2 σ) : wp_X8_upTo_b22 Q' x1 x2 σ := by
  unfold wp_X8_upTo_b22 at h ⊢
  intro v3 ev3; replace h := h v3 ev3
  exact mf_X8_upTo_l30 hq bigN _ _ _ _ _ f0 h
set_option maxHeartbeats 1000000 in
theorem mf_X8_upTo {Q Q' : Int → St → Prop} {σ0 : St} (hq : ∀ (r : Int) (σ1 : St), Q r σ1 → Fr S_X8_upTo σ0 σ1 → Q' r σ1) {x1 x2 : Int} {σ : St} (f0 : Fr S_X8_upTo σ0 σ) (h : wp_X8_upTo x1 x2 σ Q) : wp_X8_upTo x1 x2 σ Q' := by
  unfold wp_X8_upTo at h ⊢
  refine mf_X1_prepare (fun r1 σ2 h gσ2 => ?_) Fr.rf h
  have fσ2 : Fr S_X8_upTo σ0 σ2 := f0.tr gσ2 (mkS_sub (by decide) (by decide))
  exact mf_X8_upTo_b22 hq fσ2 h
set_option maxHeartbeats 1000000 in
theorem mf_X11_cheap {Q Q' : Int → St → Prop} {σ0 : St} (hq : ∀ (r : Int) (σ1 : St), Q r σ1 → Fr S_X11_cheap σ0 σ1 → Q' r σ1) {x1 x2 x3 x4 : Int} {σ : St} (f0 : Fr S_X11_cheap σ0 σ) (h : wp_X11_cheap x1 x2 x3 x4 σ Q) : wp_X11_cheap x1 x2 x3 x4 σ Q' := by
  unfold wp_X11_cheap at h ⊢
  refine mf_X11_itemOf (fun r1 σ2 h gσ2 => ?_) Fr.rf h
  have fσ2 : Fr S_X11_cheap σ0 σ2 := f0.tr gσ2 (mkS_sub (by decide) (by decide))
  refine ⟨fun hc => ?_, fun hc => ?_⟩
  · replace h := h.1 hc
    exact hq _ _ h fσ2
  · replace h := h.2 hc
    refine ⟨fun hc => ?_, fun hc => ?_⟩
    · replace h := h.1 hc
      exact hq _ _ h fσ2
    · replace h := h.2 hc
      refine ⟨fun hc => ?_, fun hc => ?_⟩
      · replace h := h.1 hc
        refine mf_X8_upTo (fun r3 σ4 h gσ4 => ?_) Fr.rf h
        have fσ4 : Fr S_X11_cheap σ0 σ4 := fσ2.tr gσ4 (mkS_sub (by decide) (by decide))
        refine mf_X11_tellNumber (fun r5 σ6 h gσ6 => ?_) Fr.rf h
        have fσ6 : Fr S_X11_cheap σ0 σ6 := fσ4.tr gσ6 (mkS_sub (by decide) (by decide))
        exact hq _ _ h fσ6
      · replace h := h.2 hc
        exact hq _ _ h fσ2
set_option maxHeartbeats 1000000 in
theorem mf_X10_push_o {Q Q' : Int → St → Prop} {σ0 : St} (hq : ∀ (r : Int) (σ1 : St), Q r σ1 → Fr S_X10_push_o σ0 σ1 → Q' r σ1) {x1 x2 : Int} {σ : St} (f0 : Fr S_X10_push_o σ0 σ) (h : wp_X10_push_o x1 x2 σ Q) : wp_X10_push_o x1 x2 σ Q' := by
  unfold wp_X10_push_o at h ⊢
  refine ⟨fun hc => ?_, fun hc => ?_⟩
  · replace h := h.1 hc
    exact hq _ _ h f0
  · replace h := h.2 hc
    refine ⟨h.1, fun σ1 eσ1 => ?_⟩; replace h := h.2 σ1 eσ1; have fσ1 : Fr S_X10_push_o σ0 σ1 := by rw [eσ1]; exact f0.up rfl
    refine ⟨h.1, fun σ2 eσ2 => ?_⟩; replace h := h.2 σ2 eσ2; have fσ2 : Fr S_X10_push_o σ0 σ2 := by rw [eσ2]; exact fσ1.up rfl
    intro σ3 eσ3; replace h := h σ3 eσ3; have fσ3 : Fr S_X10_push_o σ0 σ3 := by rw [eσ3]; exact fσ2.up rfl
    exact hq _ _ h fσ3
set_option maxHeartbeats 1000000 in
theorem mf_X10_pushTree_o {Q Q' : Int → St → Prop} {σ0 : St} (hq : ∀ (r : Int) (σ1 : St), Q r σ1 → Fr S_X10_pushTree_o σ0 σ1 → Q' r σ1) {x1 x2 : Int} {σ : St} (f0 : Fr S_X10_pushTree_o σ0 σ) (h : wp_X10_pushTree_o x1 x2 σ Q) : wp_X10_pushTree_o x1 x2 σ Q' := by
  unfold wp_X10_pushTree_o at h ⊢
  refine ⟨fun hc => ?_, fun hc => ?_⟩
  · replace h := h.1 hc
    exact hq _ _ h f0
  · replace h := h.2 hc
    refine mf_X10_push_o (fun r1 σ2 h gσ2 => ?_) Fr.rf h
    have fσ2 : Fr S_X10_pushTree_o σ0 σ2 := f0.tr gσ2 (mkS_sub (by decide) (by decide))
    exact hq _ _ h fσ2
set_option maxHeartbeats 1000000 in
theorem mf_X10_follow_o_l23 {Q Q' : Int → St → Prop} {σ0 : St} (hq : ∀ (r : Int) (σ1 : St), Q r σ1 → Fr S_X10_follow_o σ0 σ1 → Q' r σ1) : ∀ (n : Nat) (x2 : Int) (σ : St), Fr S_X10_follow_o σ0 σ → wp_X10_follow_o_l23 Q n x2 σ → wp_X10_follow_o_l23 Q' n x2 σ := by
  intro n
  induction n with
  | zero => intro _ _ _ h; exact h.elim
  | succ n ih =>
    intro x2 σ f0 h
    unfold wp_X10_follow_o_l23 at h ⊢
    refine ⟨fun hc => ?_, fun hc => ?_⟩
    · replace h := h.1 hc
      exact hq _ _ h f0
    · replace h := h.2 hc
      refine ⟨fun hc => ?_, fun hc => ?_⟩
      · replace h := h.1 hc
        exact hq _ _ h f0
      · replace h := h.2 hc
        intro σ6 eσ6; replace h := h σ6 eσ6; have fσ6 : Fr S_X10_follow_o σ0 σ6 := by rw [eσ6]; exact f0.up rfl
        refine ⟨h.1, ?_⟩; replace h := h.2
        intro v7 ev7; replace h := h v7 ev7
        refine ⟨h.1, ?_⟩; replace h := h.2
        intro v8 ev8; replace h := h v8 ev8
        refine ⟨h.1, fun σ9 eσ9 => ?_⟩; replace h := h.2 σ9 eσ9; have fσ9 : Fr S_X10_follow_o σ0 σ9 := by rw [eσ9]; exact fσ6.up rfl
        intro σ10 eσ10; replace h := h σ10 eσ10; have fσ10 : Fr S_X10_follow_o σ0 σ10 := by rw [eσ10]; exact fσ9.up rfl
        intro σ11 eσ11; replace h := h σ11 eσ11; have fσ11 : Fr S_X10_follow_o σ0 σ11 := by rw [eσ11]; exact fσ10.up rfl
        refine mf_X3_rightTree (fun r12 σ13 h gσ13 => ?_) Fr.rf h
        have fσ13 : Fr S_X10_follow_o σ0 σ13 := fσ11.tr gσ13 (mkS_sub (by decide) (by decide))
        refine mf_X10_pushTree_o (fun r14 σ15 h gσ15 => ?_) Fr.rf h
        have fσ15 : Fr S_X10_follow_o σ0 σ15 := fσ13.tr gσ15 (mkS_sub (by decide) (by decide))
        refine mf_X3_leftTree (fun r16 σ17 h gσ17 => ?_) Fr.rf h
        have fσ17 : Fr S_X10_follow_o σ0 σ17 := fσ15.tr gσ17 (mkS_sub (by decide) (by decide))
        refine mf_X10_pushTree_o (fun r18 σ19 h gσ19 => ?_) Fr.rf h
        have fσ19 : Fr S_X10_follow_o σ0 σ19 := fσ17.tr gσ19 (mkS_sub (by decide) (by decide))
        intro v20 ev20; replace h := h v20 ev20
        exact ih _ _ fσ19 h
set_option maxHeartbeats 1000000 in
theorem mf_X10_follow_o {Q Q' : Int → St → Prop} {σ0 : St} (hq : ∀ (r : Int) (σ1 : St), Q r σ1 → Fr S_X10_follow_o σ0 σ1 → Q' r σ1) {x1 : Int} {σ : St} (f0 : Fr S_X10_follow_o σ0 σ) (h : wp_X10_follow_o x1 σ Q) : wp_X10_follow_o x1 σ Q' := by
  unfold wp_X10_follow_o at h ⊢
  intro σ1 eσ1; replace h := h σ1 eσ1; have fσ1 : Fr S_X10_follow_o σ0 σ1 := by rw [eσ1]; exact f0.up rfl
  intro σ2 eσ2; replace h := h σ2 eσ2; have fσ2 : Fr S_X10_follow_o σ0 σ2 := by rw [eσ2]; exact fσ1.up rfl
  intro σ3 eσ3; replace h := h σ3 eσ3; have fσ3 : Fr S_X10_follow_o σ0 σ3 := by rw [eσ3]; exact fσ2.up rfl
  refine mf_X10_push_o (fun r4 σ5 h gσ5 => ?_) Fr.rf h
  have fσ5 : Fr S_X10_follow_o σ0 σ5 := fσ3.tr gσ5 (mkS_sub (by decide) (by decide))
  exact mf_X10_follow_o_l23 hq bigN _ _ fσ5 h
set_option maxHeartbeats 1000000 in
theorem mf_X10_caseAt_o {Q Q' : Int → St → Prop} {σ0 : St} (hq : ∀ (r : Int) (σ1 : St), Q r σ1 → Fr S_X10_caseAt_o σ0 σ1 → Q' r σ1) {x1 : Int} {σ : St} (f0 : Fr S_X10_caseAt_o σ0 σ) (h : wp_X10_caseAt_o x1 σ Q) : wp_X10_caseAt_o x1 σ Q' := by
  unfold wp_X10_caseAt_o at h ⊢
  refine ⟨h.1, ?_⟩; replace h := h.2
  refine ⟨h.1, ?_⟩; replace h := h.2
  exact hq _ _ h f0
set_option maxHeartbeats 1000000 in
theorem mf_X10_alikeWith_c72_l14 {Q Q' : Int → St → Prop} {σ0 : St} (hq : ∀ (r : Int) (σ1 : St), Q r σ1 → Fr S_X10_alikeWith_c72 σ0 σ1 → Q' r σ1) : ∀ (n : Nat) (x2 : Int) (x3 : Int) (σ : St), Fr S_X10_alikeWith_c72 σ0 σ → wp_X10_alikeWith_c72_l14 Q n x2 x3 σ → wp_X10_alikeWith_c72_l14 Q' n x2 x3 σ := by
  intro n
  induction n with
  | zero => intro _ _ _ _ h; exact h.elim
  | succ n ih =>
    intro x2 x3 σ f0 h
    unfold wp_X10_alikeWith_c72_l14 at h ⊢
    refine ⟨fun hc => ?_, fun hc => ?_⟩
    · replace h := h.1 hc
      exact hq _ _ h f0
    · replace h := h.2 hc
      refine mf_X10_caseAt (fun r2 σ3 h gσ3 => ?_) Fr.rf h
      have fσ3 : Fr S_X10_alikeWith_c72 σ0 σ3 := f0.tr gσ3 (mkS_sub (by decide) (by decide))
      refine mf_X10_caseAt_o (fun r4 σ5 h gσ5 => ?_) Fr.rf h
      have fσ5 : Fr S_X10_alikeWith_c72 σ0 σ5 := fσ3.tr gσ5 (mkS_sub (by decide) (by decide))
      refine ⟨fun hc => ?_, fun hc => ?_⟩
      · replace h := h.1 hc
        exact hq _ _ h fσ5
      · replace h := h.2 hc
        intro v6 ev6; replace h := h v6 ev6
        exact ih _ _ _ fσ5 h
set_option maxHeartbeats 1000000 in
theorem mf_X10_alikeWith_c72 {Q Q' : Int → St → Prop} {σ0 : St} (hq : ∀ (r : Int) (σ1 : St), Q r σ1 → Fr S_X10_alikeWith_c72 σ0 σ1 → Q' r σ1) {σ : St} (f0 : Fr S_X10_alikeWith_c72 σ0 σ) (h : wp_X10_alikeWith_c72  σ Q) : wp_X10_alikeWith_c72  σ Q' := by
  unfold wp_X10_alikeWith_c72 at h ⊢
  intro v1 ev1; replace h := h v1 ev1
  exact mf_X10_alikeWith_c72_l14 hq bigN _ _ _ f0 h
set_option maxHeartbeats 1000000 in
theorem mf_X11_alike {Q Q' : Int → St → Prop} {σ0 : St} (hq : ∀ (r : Int) (σ1 : St), Q r σ1 → Fr S_X11_alike σ0 σ1 → Q' r σ1) {x1 x2 x3 x4 x5 : Int} {σ : St} (f0 : Fr S_X11_alike σ0 σ) (h : wp_X11_alike x1 x2 x3 x4 x5 σ Q) : wp_X11_alike x1 x2 x3 x4 x5 σ Q' := by
  unfold wp_X11_alike at h ⊢
  refine mf_X11_itemOf (fun r1 σ2 h gσ2 => ?_) Fr.rf h
  have fσ2 : Fr S_X11_alike σ0 σ2 := f0.tr gσ2 (mkS_sub (by decide) (by decide))
  refine ⟨fun hc => ?_, fun hc => ?_⟩
  · replace h := h.1 hc
    exact hq _ _ h fσ2
  · replace h := h.2 hc
    refine mf_X11_isPlace (fun r3 σ4 h gσ4 => ?_) Fr.rf h
    have fσ4 : Fr S_X11_alike σ0 σ4 := fσ2.tr gσ4 (mkS_sub (by decide) (by decide))
    refine ⟨fun hc => ?_, fun hc => ?_⟩
    · replace h := h.1 hc
      exact hq _ _ h fσ4
    · replace h := h.2 hc
      refine mf_X11_isPlace (fun r5 σ6 h gσ6 => ?_) Fr.rf h
      have fσ6 : Fr S_X11_alike σ0 σ6 := fσ4.tr gσ6 (mkS_sub (by decide) (by decide))
      refine ⟨fun hc => ?_, fun hc => ?_⟩
      · replace h := h.1 hc
        refine mf_X3_treeOf (fun r7 σ8 h gσ8 => ?_) Fr.rf h
        have fσ8 : Fr S_X11_alike σ0 σ8 := fσ6.tr gσ8 (mkS_sub (by decide) (by decide))
        refine mf_X3_treeOf (fun r9 σ10 h gσ10 => ?_) Fr.rf h
        have fσ10 : Fr S_X11_alike σ0 σ10 := fσ8.tr gσ10 (mkS_sub (by decide) (by decide))
        refine ⟨fun hc => ?_, fun hc => ?_⟩
        · replace h := h.1 hc
          exact hq _ _ h fσ10
        · replace h := h.2 hc
          refine ⟨fun hc => ?_, fun hc => ?_⟩
          · replace h := h.1 hc
            refine mf_X10_follow (fun r11 σ12 h gσ12 => ?_) Fr.rf h
            have fσ12 : Fr S_X11_alike σ0 σ12 := fσ10.tr gσ12 (mkS_sub (by decide) (by decide))
            refine mf_X10_follow_o (fun r13 σ14 h gσ14 => ?_) Fr.rf h
            have fσ14 : Fr S_X11_alike σ0 σ14 := fσ12.tr gσ14 (mkS_sub (by decide) (by decide))
            refine mf_X10_alikeWith_c72 (fun r15 σ16 h gσ16 => ?_) Fr.rf h
            have fσ16 : Fr S_X11_alike σ0 σ16 := fσ14.tr gσ16 (mkS_sub (by decide) (by decide))
            exact hq _ _ h fσ16
          · replace h := h.2 hc
            exact hq _ _ h fσ10
      · replace h := h.2 hc
        exact hq _ _ h fσ6
set_option maxHeartbeats 1000000 in
theorem mf_X1_leastOfCases_c39_b159 {Q Q' : Int → St → Prop} {σ0 : St} (hq : ∀ (r : Int) (σ1 : St), Q r σ1 → Fr S_X1_leastOfCases_c39 σ0 σ1 → Q' r σ1) {K13 K13' : Int → Int → Int → Int → Int → St → Prop} (hK13 : ∀ (x2 : Int) (x3 : Int) (x4 : Int) (x5 : Int) (x6 : Int) (σ : St), Fr S_X1_leastOfCases_c39 σ0 σ → K13 x2 x3 x4 x5 x6 σ → K13' x2 x3 x4 x5 x6 σ) {x2 x3 x4 x5 x6 : Int} {σ : St} (f0 : Fr S_X1_leastOfCases_c39 σ0 σ) (h : wp_X1_leastOfCases_c39_b159 Q K13 x2 x3 x4 x5 x6 σ) : wp_X1_leastOfCases_c39_b159 Q' K13' x2 x3 x4 x5 x6 σ := by
  unfold wp_X1_leastOfCases_c39_b159 at h ⊢
  intro v8 ev8; replace h := h v8 ev8
  exact hK13 _ _ _ _ _ _ f0 h
set_option maxHeartbeats 1000000 in
theorem mf_X1_leastOfCases_c39_b116 {Q Q' : Int → St → Prop} {σ0 : St} (hq : ∀ (r : Int) (σ1 : St), Q r σ1 → Fr S_X1_leastOfCases_c39 σ0 σ1 → Q' r σ1) {K13 K13' : Int → Int → Int → Int → Int → St → Prop} (hK13 : ∀ (x2 : Int) (x3 : Int) (x4 : Int) (x5 : Int) (x6 : Int) (σ : St), Fr S_X1_leastOfCases_c39 σ0 σ → K13 x2 x3 x4 x5 x6 σ → K13' x2 x3 x4 x5 x6 σ) {x2 x3 x4 x5 x6 x7 x8 s0 : Int} {σ : St} (f0 : Fr S_X1_leastOfCases_c39 σ0 σ) (h : wp_X1_leastOfCases_c39_b116 Q K13 x2 x3 x4 x5 x6 x7 x8 s0 σ) : wp_X1_leastOfCases_c39_b116 Q' K13' x2 x3 x4 x5 x6 x7 x8 s0 σ := by
  unfold wp_X1_leastOfCases_c39_b116 at h ⊢
  refine ⟨fun hc => ?_, fun hc => ?_⟩
  · replace h := h.1 hc
    exact mf_X1_leastOfCases_c39_b159 hq hK13 f0 h
  · replace h := h.2 hc
    refine ⟨fun hc => ?_, fun hc => ?_⟩
    · replace h := h.1 hc
      exact mf_X1_leastOfCases_c39_b159 hq hK13 f0 h
    · replace h := h.2 hc
      refine ⟨h.1, ?_⟩; replace h := h.2
      refine mf_X1_join (fun r9 σ10 h gσ10 => ?_) Fr.rf h
      have fσ10 : Fr S_X1_leastOfCases_c39 σ0 σ10 := f0.tr gσ10 (mkS_sub (by decide) (by decide))
      refine mf_X1_join (fun r11 σ12 h gσ12 => ?_) Fr.rf h
      have fσ12 : Fr S_X1_leastOfCases_c39 σ0 σ12 := fσ10.tr gσ12 (mkS_sub (by decide) (by decide))
      refine mf_X1_lesser (fun r13 σ14 h gσ14 => ?_) Fr.rf h
      have fσ14 : Fr S_X1_leastOfCases_c39 σ0 σ14 := fσ12.tr gσ14 (mkS_sub (by decide) (by decide))
      exact mf_X1_leastOfCases_c39_b159 hq hK13 fσ14 h
set_option maxHeartbeats 1000000 in
theorem mf_X1_leastOfCases_c39_b85 {Q Q' : Int → St → Prop} {σ0 : St} (hq : ∀ (r : Int) (σ1 : St), Q r σ1 → Fr S_X1_leastOfCases_c39 σ0 σ1 → Q' r σ1) {K13 K13' : Int → Int → Int → Int → Int → St → Prop} (hK13 : ∀ (x2 : Int) (x3 : Int) (x4 : Int) (x5 : Int) (x6 : Int) (σ : St), Fr S_X1_leastOfCases_c39 σ0 σ → K13 x2 x3 x4 x5 x6 σ → K13' x2 x3 x4 x5 x6 σ) {x2 x3 x4 x5 x6 x7 s0 : Int} {σ : St} (f0 : Fr S_X1_leastOfCases_c39 σ0 σ) (h : wp_X1_leastOfCases_c39_b85 Q K13 x2 x3 x4 x5 x6 x7 s0 σ) : wp_X1_leastOfCases_c39_b85 Q' K13' x2 x3 x4 x5 x6 x7 s0 σ := by
  unfold wp_X1_leastOfCases_c39_b85 at h ⊢
  refine ⟨h.1, ?_⟩; replace h := h.2
  refine ⟨fun hc => ?_, fun hc => ?_⟩
  · replace h := h.1 hc
    refine ⟨h.1, ?_⟩; replace h := h.2
    refine ⟨h.1, ?_⟩; replace h := h.2
    exact mf_X1_leastOfCases_c39_b116 hq hK13 f0 h
  · replace h := h.2 hc
    exact mf_X1_leastOfCases_c39_b116 hq hK13 f0 h
set_option maxHeartbeats 1000000 in
theorem mf_X1_leastOfCases_c39_l13 {Q Q' : Int → St → Prop} {σ0 : St} (hq : ∀ (r : Int) (σ1 : St), Q r σ1 → Fr S_X1_leastOfCases_c39 σ0 σ1 → Q' r σ1) : ∀ (n : Nat) (x2 : Int) (x3 : Int) (x4 : Int) (x5 : Int) (x6 : Int) (σ : St), Fr S_X1_leastOfCases_c39 σ0 σ → wp_X1_leastOfCases_c39_l13 Q n x2 x3 x4 x5 x6 σ → wp_X1_leastOfCases_c39_l13 Q' n x2 x3 x4 x5 x6 σ := by
  intro n
  induction n with
  | zero => intro _ _ _ _ _ _ _ h; exact h.elim
  | succ n ih =>
    intro x2 x3 x4 x5 x6 σ f0 h
    unfold wp_X1_leastOfCases_c39_l13 at h ⊢
    refine mf_X0_caseEnd (fun r3 σ4 h gσ4 => ?_) Fr.rf h
    have fσ4 : Fr S_X1_leastOfCases_c39 σ0 σ4 := f0.tr gσ4 (mkS_sub (by decide) (by decide))
    refine ⟨fun hc => ?_, fun hc => ?_⟩
    · replace h := h.1 hc
      exact hq _ _ h fσ4
    · replace h := h.2 hc
      refine ⟨h.1, ?_⟩; replace h := h.2
      intro v5 ev5; replace h := h v5 ev5
      refine ⟨fun hc => ?_, fun hc => ?_⟩
      · replace h := h.1 hc
        exact mf_X1_leastOfCases_c39_b159 hq ih fσ4 h
      · replace h := h.2 hc
        refine mf_X0_goesOn (fun r6 σ7 h gσ7 => ?_) Fr.rf h
        have fσ7 : Fr S_X1_leastOfCases_c39 σ0 σ7 := fσ4.tr gσ7 (mkS_sub (by decide) (by decide))
        refine ⟨fun hc => ?_, fun hc => ?_⟩
        · replace h := h.1 hc
          exact mf_X1_leastOfCases_c39_b159 hq ih fσ7 h
        · replace h := h.2 hc
          refine ⟨h.1, ?_⟩; replace h := h.2
          refine ⟨fun hc => ?_, fun hc => ?_⟩
          · replace h := h.1 hc
            refine ⟨h.1, ?_⟩; replace h := h.2
            refine ⟨h.1, ?_⟩; replace h := h.2
            exact mf_X1_leastOfCases_c39_b85 hq ih fσ7 h
          · replace h := h.2 hc
            exact mf_X1_leastOfCases_c39_b85 hq ih fσ7 h
set_option maxHeartbeats 1000000 in
theorem mf_X1_leastOfCases_c39 {Q Q' : Int → St → Prop} {σ0 : St} (hq : ∀ (r : Int) (σ1 : St), Q r σ1 → Fr S_X1_leastOfCases_c39 σ0 σ1 → Q' r σ1) {x2 x3 x4 : Int} {σ : St} (f0 : Fr S_X1_leastOfCases_c39 σ0 σ) (h : wp_X1_leastOfCases_c39 x2 x3 x4 σ Q) : wp_X1_leastOfCases_c39 x2 x3 x4 σ Q' := by
  unfold wp_X1_leastOfCases_c39 at h ⊢
  refine mf_X0_caseStart (fun r1 σ2 h gσ2 => ?_) Fr.rf h
  have fσ2 : Fr S_X1_leastOfCases_c39 σ0 σ2 := f0.tr gσ2 (mkS_sub (by decide) (by decide))
  exact mf_X1_leastOfCases_c39_l13 hq bigN _ _ _ _ _ _ fσ2 h
set_option maxHeartbeats 1000000 in
theorem mf_X1_relax_c39_b122 {Q Q' : Int → St → Prop} {σ0 : St} (hq : ∀ (r : Int) (σ1 : St), Q r σ1 → Fr S_X1_relax_c39 σ0 σ1 → Q' r σ1) {K6 K6' : Int → Int → Int → Int → Int → St → Prop} (hK6 : ∀ (x2 : Int) (x3 : Int) (x4 : Int) (x5 : Int) (x6 : Int) (σ : St), Fr S_X1_relax_c39 σ0 σ → K6 x2 x3 x4 x5 x6 σ → K6' x2 x3 x4 x5 x6 σ) {x2 x3 x4 x5 x6 : Int} {σ : St} (f0 : Fr S_X1_relax_c39 σ0 σ) (h : wp_X1_relax_c39_b122 Q K6 x2 x3 x4 x5 x6 σ) : wp_X1_relax_c39_b122 Q' K6' x2 x3 x4 x5 x6 σ := by
  unfold wp_X1_relax_c39_b122 at h ⊢
  intro v8 ev8; replace h := h v8 ev8
  exact hK6 _ _ _ _ _ _ f0 h
set_option maxHeartbeats 1000000 in
theorem mf_X1_relax_c39_b113 {Q Q' : Int → St → Prop} {σ0 : St} (hq : ∀ (r : Int) (σ1 : St), Q r σ1 → Fr S_X1_relax_c39 σ0 σ1 → Q' r σ1) {K6 K6' : Int → Int → Int → Int → Int → St → Prop} (hK6 : ∀ (x2 : Int) (x3 : Int) (x4 : Int) (x5 : Int) (x6 : Int) (σ : St), Fr S_X1_relax_c39 σ0 σ → K6 x2 x3 x4 x5 x6 σ → K6' x2 x3 x4 x5 x6 σ) {x2 x3 x4 x6 x9 x10 s0 s1 : Int} {σ : St} (f0 : Fr S_X1_relax_c39 σ0 σ) (h : wp_X1_relax_c39_b113 Q K6 x2 x3 x4 x6 x9 x10 s0 s1 σ) : wp_X1_relax_c39_b113 Q' K6' x2 x3 x4 x6 x9 x10 s0 s1 σ := by
  unfold wp_X1_relax_c39_b113 at h ⊢
  intro v9 ev9; replace h := h v9 ev9
  refine ⟨h.1, fun σ10 eσ10 => ?_⟩; replace h := h.2 σ10 eσ10; have fσ10 : Fr S_X1_relax_c39 σ0 σ10 := by rw [eσ10]; exact f0.up rfl
  exact mf_X1_relax_c39_b122 hq hK6 fσ10 h
set_option maxHeartbeats 1000000 in
theorem mf_X1_relax_c39_l6 {Q Q' : Int → St → Prop} {σ0 : St} (hq : ∀ (r : Int) (σ1 : St), Q r σ1 → Fr S_X1_relax_c39 σ0 σ1 → Q' r σ1) : ∀ (n : Nat) (x2 : Int) (x3 : Int) (x4 : Int) (x5 : Int) (x6 : Int) (σ : St), Fr S_X1_relax_c39 σ0 σ → wp_X1_relax_c39_l6 Q n x2 x3 x4 x5 x6 σ → wp_X1_relax_c39_l6 Q' n x2 x3 x4 x5 x6 σ := by
  intro n
  induction n with
  | zero => intro _ _ _ _ _ _ _ h; exact h.elim
  | succ n ih =>
    intro x2 x3 x4 x5 x6 σ f0 h
    unfold wp_X1_relax_c39_l6 at h ⊢
    refine ⟨fun hc => ?_, fun hc => ?_⟩
    · replace h := h.1 hc
      exact ⟨h.1, hq _ _ h.2 f0⟩
    · replace h := h.2 hc
      refine ⟨h.1, ?_⟩; replace h := h.2
      intro v1 ev1; replace h := h v1 ev1
      refine ⟨h.1, ?_⟩; replace h := h.2
      refine ⟨h.1, ?_⟩; replace h := h.2
      intro v2 ev2; replace h := h v2 ev2
      refine ⟨h.1, ?_⟩; replace h := h.2
      intro v3 ev3; replace h := h v3 ev3
      refine ⟨fun hc => ?_, fun hc => ?_⟩
      · replace h := h.1 hc
        exact mf_X1_relax_c39_b122 hq ih f0 h
      · replace h := h.2 hc
        refine ⟨fun hc => ?_, fun hc => ?_⟩
        · replace h := h.1 hc
          exact mf_X1_relax_c39_b122 hq ih f0 h
        · replace h := h.2 hc
          refine ⟨h.1, ?_⟩; replace h := h.2
          refine ⟨h.1, ?_⟩; replace h := h.2
          refine mf_X1_join (fun r4 σ5 h gσ5 => ?_) Fr.rf h
          have fσ5 : Fr S_X1_relax_c39 σ0 σ5 := f0.tr gσ5 (mkS_sub (by decide) (by decide))
          refine mf_X1_lesser (fun r6 σ7 h gσ7 => ?_) Fr.rf h
          have fσ7 : Fr S_X1_relax_c39 σ0 σ7 := fσ5.tr gσ7 (mkS_sub (by decide) (by decide))
          refine ⟨h.1, ?_⟩; replace h := h.2
          refine ⟨fun hc => ?_, fun hc => ?_⟩
          · replace h := h.1 hc
            exact mf_X1_relax_c39_b113 hq ih fσ7 h
          · replace h := h.2 hc
            exact mf_X1_relax_c39_b113 hq ih fσ7 h
set_option maxHeartbeats 1000000 in
theorem mf_X1_relax_c39 {Q Q' : Int → St → Prop} {σ0 : St} (hq : ∀ (r : Int) (σ1 : St), Q r σ1 → Fr S_X1_relax_c39 σ0 σ1 → Q' r σ1) {x2 x3 x4 : Int} {σ : St} (f0 : Fr S_X1_relax_c39 σ0 σ) (h : wp_X1_relax_c39 x2 x3 x4 σ Q) : wp_X1_relax_c39 x2 x3 x4 σ Q' := by
  unfold wp_X1_relax_c39 at h ⊢
  exact mf_X1_relax_c39_l6 hq bigN _ _ _ _ _ _ f0 h
set_option maxHeartbeats 1000000 in
theorem mf_X1_fill_c39_b90 {Q Q' : Int → St → Prop} {σ0 : St} (hq : ∀ (r : Int) (σ1 : St), Q r σ1 → Fr S_X1_fill_c39 σ0 σ1 → Q' r σ1) {K3 K3' : Int → Int → Int → St → Prop} (hK3 : ∀ (x2 : Int) (x3 : Int) (x4 : Int) (σ : St), Fr S_X1_fill_c39 σ0 σ → K3 x2 x3 x4 σ → K3' x2 x3 x4 σ) {x2 x3 x4 : Int} {σ : St} (f0 : Fr S_X1_fill_c39 σ0 σ) (h : wp_X1_fill_c39_b90 Q K3 x2 x3 x4 σ) : wp_X1_fill_c39_b90 Q' K3' x2 x3 x4 σ := by
  unfold wp_X1_fill_c39_b90 at h ⊢
  intro v9 ev9; replace h := h v9 ev9
  exact hK3 _ _ _ _ f0 h
set_option maxHeartbeats 1000000 in
theorem mf_X1_fill_c39_l61 {Q Q' : Int → St → Prop} {σ0 : St} (hq : ∀ (r : Int) (σ1 : St), Q r σ1 → Fr S_X1_fill_c39 σ0 σ1 → Q' r σ1) {K3 K3' : Int → Int → Int → St → Prop} (hK3 : ∀ (x2 : Int) (x3 : Int) (x4 : Int) (σ : St), Fr S_X1_fill_c39 σ0 σ → K3 x2 x3 x4 σ → K3' x2 x3 x4 σ) : ∀ (n : Nat) (x2 : Int) (x3 : Int) (x4 : Int) (x5 : Int) (x6 : Int) (x7 : Int) (σ : St), Fr S_X1_fill_c39 σ0 σ → wp_X1_fill_c39_l61 Q K3 n x2 x3 x4 x5 x6 x7 σ → wp_X1_fill_c39_l61 Q' K3' n x2 x3 x4 x5 x6 x7 σ := by
  intro n
  induction n with
  | zero => intro _ _ _ _ _ _ _ _ h; exact h.elim
  | succ n ih =>
    intro x2 x3 x4 x5 x6 x7 σ f0 h
    unfold wp_X1_fill_c39_l61 at h ⊢
    refine ⟨fun hc => ?_, fun hc => ?_⟩
    · replace h := h.1 hc
      exact mf_X1_fill_c39_b90 hq hK3 f0 h
    · replace h := h.2 hc
      refine ⟨fun hc => ?_, fun hc => ?_⟩
      · replace h := h.1 hc
        exact mf_X1_fill_c39_b90 hq hK3 f0 h
      · replace h := h.2 hc
        refine mf_X1_relax_c39 (fun r6 σ7 h gσ7 => ?_) Fr.rf h
        have fσ7 : Fr S_X1_fill_c39 σ0 σ7 := f0.tr gσ7 (mkS_sub (by decide) (by decide))
        intro v8 ev8; replace h := h v8 ev8
        exact ih _ _ _ _ _ _ _ fσ7 h
set_option maxHeartbeats 1000000 in
theorem mf_X1_fill_c39_l26 {Q Q' : Int → St → Prop} {σ0 : St} (hq : ∀ (r : Int) (σ1 : St), Q r σ1 → Fr S_X1_fill_c39 σ0 σ1 → Q' r σ1) {K3 K3' : Int → Int → Int → St → Prop} (hK3 : ∀ (x2 : Int) (x3 : Int) (x4 : Int) (σ : St), Fr S_X1_fill_c39 σ0 σ → K3 x2 x3 x4 σ → K3' x2 x3 x4 σ) : ∀ (n : Nat) (x2 : Int) (x3 : Int) (x4 : Int) (x5 : Int) (x6 : Int) (σ : St), Fr S_X1_fill_c39 σ0 σ → wp_X1_fill_c39_l26 Q K3 n x2 x3 x4 x5 x6 σ → wp_X1_fill_c39_l26 Q' K3' n x2 x3 x4 x5 x6 σ := by
  intro n
  induction n with
  | zero => intro _ _ _ _ _ _ _ h; exact h.elim
  | succ n ih =>
    intro x2 x3 x4 x5 x6 σ f0 h
    unfold wp_X1_fill_c39_l26 at h ⊢
    refine ⟨fun hc => ?_, fun hc => ?_⟩
    · replace h := h.1 hc
      exact mf_X1_fill_c39_l61 hq hK3 bigN _ _ _ _ _ _ _ f0 h
    · replace h := h.2 hc
      refine mf_X1_leastOfCases_c39 (fun r2 σ3 h gσ3 => ?_) Fr.rf h
      have fσ3 : Fr S_X1_fill_c39 σ0 σ3 := f0.tr gσ3 (mkS_sub (by decide) (by decide))
      refine ⟨h.1, fun σ4 eσ4 => ?_⟩; replace h := h.2 σ4 eσ4; have fσ4 : Fr S_X1_fill_c39 σ0 σ4 := by rw [eσ4]; exact fσ3.up rfl
      intro v5 ev5; replace h := h v5 ev5
      exact ih _ _ _ _ _ _ fσ4 h
set_option maxHeartbeats 1000000 in
theorem mf_X1_fill_c39_l3 {Q Q' : Int → St → Prop} {σ0 : St} (hq : ∀ (r : Int) (σ1 : St), Q r σ1 → Fr S_X1_fill_c39 σ0 σ1 → Q' r σ1) : ∀ (n : Nat) (x2 : Int) (x3 : Int) (x4 : Int) (σ : St), Fr S_X1_fill_c39 σ0 σ → wp_X1_fill_c39_l3 Q n x2 x3 x4 σ → wp_X1_fill_c39_l3 Q' n x2 x3 x4 σ := by
  intro n
  induction n with
  | zero => intro _ _ _ _ _ h; exact h.elim
  | succ n ih =>
    intro x2 x3 x4 σ f0 h
    unfold wp_X1_fill_c39_l3 at h ⊢
    refine ⟨fun hc => ?_, fun hc => ?_⟩
    · replace h := h.1 hc
      exact hq _ _ h f0
    · replace h := h.2 hc
      intro v1 ev1; replace h := h v1 ev1
      exact mf_X1_fill_c39_l26 hq ih bigN _ _ _ _ _ _ f0 h
set_option maxHeartbeats 1000000 in
theorem mf_X1_fill_c39 {Q Q' : Int → St → Prop} {σ0 : St} (hq : ∀ (r : Int) (σ1 : St), Q r σ1 → Fr S_X1_fill_c39 σ0 σ1 → Q' r σ1) {x2 x3 : Int} {σ : St} (f0 : Fr S_X1_fill_c39 σ0 σ) (h : wp_X1_fill_c39 x2 x3 σ Q) : wp_X1_fill_c39 x2 x3 σ Q' := by
  unfold wp_X1_fill_c39 at h ⊢
  exact mf_X1_fill_c39_l3 hq bigN _ _ _ _ f0 h
set_option maxHeartbeats 1000000 in
theorem mf_X1_lowestWithout {Q Q' : Int → St → Prop} {σ0 : St} (hq : ∀ (r : Int) (σ1 : St), Q r σ1 → Fr S_X1_lowestWithout σ0 σ1 → Q' r σ1) {x1 x2 : Int} {σ : St} (f0 : Fr S_X1_lowestWithout σ0 σ) (h : wp_X1_lowestWithout x1 x2 σ Q) : wp_X1_lowestWithout x1 x2 σ Q' := by
  unfold wp_X1_lowestWithout at h ⊢
  refine mf_X0_build (fun r1 σ2 h gσ2 => ?_) Fr.rf h
  have fσ2 : Fr S_X1_lowestWithout σ0 σ2 := f0.tr gσ2 (mkS_sub (by decide) (by decide))
  refine mf_X1_fill_c39 (fun r3 σ4 h gσ4 => ?_) Fr.rf h
  have fσ4 : Fr S_X1_lowestWithout σ0 σ4 := fσ2.tr gσ4 (mkS_sub (by decide) (by decide))
  refine ⟨h.1, ?_⟩; replace h := h.2
  exact hq _ _ h fσ4
set_option maxHeartbeats 1000000 in
theorem mf_X11_without {Q Q' : Int → St → Prop} {σ0 : St} (hq : ∀ (r : Int) (σ1 : St), Q r σ1 → Fr S_X11_without σ0 σ1 → Q' r σ1) {x1 : Int} {σ : St} (f0 : Fr S_X11_without σ0 σ) (h : wp_X11_without x1 σ Q) : wp_X11_without x1 σ Q' := by
  unfold wp_X11_without at h ⊢
  refine mf_X4_knows (fun r1 σ2 h gσ2 => ?_) Fr.rf h
  have fσ2 : Fr S_X11_without σ0 σ2 := f0.tr gσ2 (mkS_sub (by decide) (by decide))
  refine ⟨fun hc => ?_, fun hc => ?_⟩
  · replace h := h.1 hc
    refine mf_X11_wholeItem (fun r3 σ4 h gσ4 => ?_) Fr.rf h
    have fσ4 : Fr S_X11_without σ0 σ4 := fσ2.tr gσ4 (mkS_sub (by decide) (by decide))
    refine ⟨fun hc => ?_, fun hc => ?_⟩
    · replace h := h.1 hc
      refine mf_X1_lowestWithout (fun r5 σ6 h gσ6 => ?_) Fr.rf h
      have fσ6 : Fr S_X11_without σ0 σ6 := fσ4.tr gσ6 (mkS_sub (by decide) (by decide))
      exact hq _ _ h fσ6
    · replace h := h.2 hc
      exact hq _ _ h fσ4
  · replace h := h.2 hc
    exact hq _ _ h fσ2
set_option maxHeartbeats 1000000 in
theorem mf_X11_heads_b60 {Q Q' : Int → St → Prop} {σ0 : St} (hq : ∀ (r : Int) (σ1 : St), Q r σ1 → Fr S_X11_heads σ0 σ1 → Q' r σ1) {K4 K4' : Int → Int → St → Prop} (hK4 : ∀ (x1 : Int) (x2 : Int) (σ : St), Fr S_X11_heads σ0 σ → K4 x1 x2 σ → K4' x1 x2 σ) {x1 x2 : Int} {σ : St} (f0 : Fr S_X11_heads σ0 σ) (h : wp_X11_heads_b60 Q K4 x1 x2 σ) : wp_X11_heads_b60 Q' K4' x1 x2 σ := by
  unfold wp_X11_heads_b60 at h ⊢
  intro v8 ev8; replace h := h v8 ev8
  exact hK4 _ _ _ f0 h
set_option maxHeartbeats 1000000 in
theorem mf_X11_heads_l4 {Q Q' : Int → St → Prop} {σ0 : St} (hq : ∀ (r : Int) (σ1 : St), Q r σ1 → Fr S_X11_heads σ0 σ1 → Q' r σ1) : ∀ (n : Nat) (x1 : Int) (x2 : Int) (σ : St), Fr S_X11_heads σ0 σ → wp_X11_heads_l4 Q n x1 x2 σ → wp_X11_heads_l4 Q' n x1 x2 σ := by
  intro n
  induction n with
  | zero => intro _ _ _ _ h; exact h.elim
  | succ n ih =>
    intro x1 x2 σ f0 h
    unfold wp_X11_heads_l4 at h ⊢
    refine ⟨fun hc => ?_, fun hc => ?_⟩
    · replace h := h.1 hc
      exact hq _ _ h f0
    · replace h := h.2 hc
      refine ⟨fun hc => ?_, fun hc => ?_⟩
      · replace h := h.1 hc
        exact hq _ _ h f0
      · replace h := h.2 hc
        refine mf_X4_start (fun r1 σ2 h gσ2 => ?_) Fr.rf h
        have fσ2 : Fr S_X11_heads σ0 σ2 := f0.tr gσ2 (mkS_sub (by decide) (by decide))
        refine mf_X11_itemOf (fun r3 σ4 h gσ4 => ?_) Fr.rf h
        have fσ4 : Fr S_X11_heads σ0 σ4 := fσ2.tr gσ4 (mkS_sub (by decide) (by decide))
        refine ⟨fun hc => ?_, fun hc => ?_⟩
        · replace h := h.1 hc
          exact mf_X11_heads_b60 hq ih fσ4 h
        · replace h := h.2 hc
          refine mf_X1_lowestOf (fun r5 σ6 h gσ6 => ?_) Fr.rf h
          have fσ6 : Fr S_X11_heads σ0 σ6 := fσ4.tr gσ6 (mkS_sub (by decide) (by decide))
          refine ⟨fun hc => ?_, fun hc => ?_⟩
          · replace h := h.1 hc
            exact mf_X11_heads_b60 hq ih fσ6 h
          · replace h := h.2 hc
            intro v7 ev7; replace h := h v7 ev7
            exact mf_X11_heads_b60 hq ih fσ6 h
set_option maxHeartbeats 1000000 in
theorem mf_X11_heads {Q Q' : Int → St → Prop} {σ0 : St} (hq : ∀ (r : Int) (σ1 : St), Q r σ1 → Fr S_X11_heads σ0 σ1 → Q' r σ1) {σ : St} (f0 : Fr S_X11_heads σ0 σ) (h : wp_X11_heads  σ Q) : wp_X11_heads  σ Q' := by
  unfold wp_X11_heads at h ⊢
  exact mf_X11_heads_l4 hq bigN _ _ _ f0 h
set_option maxHeartbeats 1000000 in
theorem mf_J7_fill_53178_C_c82_l5 {Q Q' : Int → St → Prop} {σ0 : St} (hq : ∀ (r : Int) (σ1 : St), Q r σ1 → Fr S_J7_fill_53178_C_c82 σ0 σ1 → Q' r σ1) : ∀ (n : Nat) (x1 : Int) (x2 : Int) (x3 : Int) (σ : St), Fr S_J7_fill_53178_C_c82 σ0 σ → wp_J7_fill_53178_C_c82_l5 Q n x1 x2 x3 σ → wp_J7_fill_53178_C_c82_l5 Q' n x1 x2 x3 σ := by
  intro n
  induction n with
  | zero => intro _ _ _ _ _ h; exact h.elim
  | succ n ih =>
    intro x1 x2 x3 σ f0 h
    unfold wp_J7_fill_53178_C_c82_l5 at h ⊢
    refine ⟨fun hc => ?_, fun hc => ?_⟩
    · replace h := h.1 hc
      exact hq _ _ h f0
    · replace h := h.2 hc
      refine ⟨h.1, fun σ1 eσ1 => ?_⟩; replace h := h.2 σ1 eσ1; have fσ1 : Fr S_J7_fill_53178_C_c82 σ0 σ1 := by rw [eσ1]; exact f0.up rfl
      intro v2 ev2; replace h := h v2 ev2
      exact ih _ _ _ _ fσ1 h
set_option maxHeartbeats 1000000 in
theorem mf_J7_fill_53178_C_c82 {Q Q' : Int → St → Prop} {σ0 : St} (hq : ∀ (r : Int) (σ1 : St), Q r σ1 → Fr S_J7_fill_53178_C_c82 σ0 σ1 → Q' r σ1) {x1 : Int} {σ : St} (f0 : Fr S_J7_fill_53178_C_c82 σ0 σ) (h : wp_J7_fill_53178_C_c82 x1 σ Q) : wp_J7_fill_53178_C_c82 x1 σ Q' := by
  unfold wp_J7_fill_53178_C_c82 at h ⊢
  exact mf_J7_fill_53178_C_c82_l5 hq bigN _ _ _ _ f0 h
set_option maxHeartbeats 1000000 in
theorem mf_X5_choose_b112 {Q Q' : Int → St → Prop} {σ0 : St} (hq : ∀ (r : Int) (σ1 : St), Q r σ1 → Fr S_X5_choose σ0 σ1 → Q' r σ1) {K22 K22' : Int → St → Prop} (hK22 : ∀ (x1 : Int) (σ : St), Fr S_X5_choose σ0 σ → K22 x1 σ → K22' x1 σ) {K35 K35' : Int → Int → St → Prop} (hK35 : ∀ (x1 : Int) (x2 : Int) (σ : St), Fr S_X5_choose σ0 σ → K35 x1 x2 σ → K35' x1 x2 σ) {x1 x2 : Int} {σ : St} (f0 : Fr S_X5_choose σ0 σ) (h : wp_X5_choose_b112 Q K22 K35 x1 x2 σ) : wp_X5_choose_b112 Q' K22' K35' x1 x2 σ := by
  unfold wp_X5_choose_b112 at h ⊢
  intro v8 ev8; replace h := h v8 ev8
  exact hK35 _ _ _ f0 h
set_option maxHeartbeats 1000000 in
theorem mf_X5_choose_b97 {Q Q' : Int → St → Prop} {σ0 : St} (hq : ∀ (r : Int) (σ1 : St), Q r σ1 → Fr S_X5_choose σ0 σ1 → Q' r σ1) {K22 K22' : Int → St → Prop} (hK22 : ∀ (x1 : Int) (σ : St), Fr S_X5_choose σ0 σ → K22 x1 σ → K22' x1 σ) {K35 K35' : Int → Int → St → Prop} (hK35 : ∀ (x1 : Int) (x2 : Int) (σ : St), Fr S_X5_choose σ0 σ → K35 x1 x2 σ → K35' x1 x2 σ) {x1 x2 x3 : Int} {σ : St} (f0 : Fr S_X5_choose σ0 σ) (h : wp_X5_choose_b97 Q K22 K35 x1 x2 x3 σ) : wp_X5_choose_b97 Q' K22' K35' x1 x2 x3 σ := by
  unfold wp_X5_choose_b97 at h ⊢
  intro σ9 eσ9; replace h := h σ9 eσ9; have fσ9 : Fr S_X5_choose σ0 σ9 := by rw [eσ9]; exact f0.up rfl
  intro σ10 eσ10; replace h := h σ10 eσ10; have fσ10 : Fr S_X5_choose σ0 σ10 := by rw [eσ10]; exact fσ9.up rfl
  intro σ11 eσ11; replace h := h σ11 eσ11; have fσ11 : Fr S_X5_choose σ0 σ11 := by rw [eσ11]; exact fσ10.up rfl
  exact mf_X5_choose_b112 hq hK22 hK35 fσ11 h
set_option maxHeartbeats 1000000 in
theorem mf_X5_choose_l35 {Q Q' : Int → St → Prop} {σ0 : St} (hq : ∀ (r : Int) (σ1 : St), Q r σ1 → Fr S_X5_choose σ0 σ1 → Q' r σ1) {K22 K22' : Int → St → Prop} (hK22 : ∀ (x1 : Int) (σ : St), Fr S_X5_choose σ0 σ → K22 x1 σ → K22' x1 σ) : ∀ (n : Nat) (x1 : Int) (x2 : Int) (σ : St), Fr S_X5_choose σ0 σ → wp_X5_choose_l35 Q K22 n x1 x2 σ → wp_X5_choose_l35 Q' K22' n x1 x2 σ := by
  intro n
  induction n with
  | zero => intro _ _ _ _ h; exact h.elim
  | succ n ih =>
    intro x1 x2 σ f0 h
    unfold wp_X5_choose_l35 at h ⊢
    refine ⟨fun hc => ?_, fun hc => ?_⟩
    · replace h := h.1 hc
      intro v5 ev5; replace h := h v5 ev5
      exact hK22 _ _ f0 h
    · replace h := h.2 hc
      refine ⟨h.1, ?_⟩; replace h := h.2
      intro v6 ev6; replace h := h v6 ev6
      refine ⟨fun hc => ?_, fun hc => ?_⟩
      · replace h := h.1 hc
        exact mf_X5_choose_b112 hq hK22 ih f0 h
      · replace h := h.2 hc
        refine ⟨h.1, ?_⟩; replace h := h.2
        refine ⟨fun hc => ?_, fun hc => ?_⟩
        · replace h := h.1 hc
          exact mf_X5_choose_b112 hq hK22 ih f0 h
        · replace h := h.2 hc
          intro σ7 eσ7; replace h := h σ7 eσ7; have fσ7 : Fr S_X5_choose σ0 σ7 := by rw [eσ7]; exact f0.up rfl
          refine ⟨fun hc => ?_, fun hc => ?_⟩
          · replace h := h.1 hc
            exact mf_X5_choose_b97 hq hK22 ih fσ7 h
          · replace h := h.2 hc
            refine ⟨fun hc => ?_, fun hc => ?_⟩
            · replace h := h.1 hc
              exact mf_X5_choose_b112 hq hK22 ih fσ7 h
            · replace h := h.2 hc
              exact mf_X5_choose_b97 hq hK22 ih fσ7 h
set_option maxHeartbeats 1000000 in
theorem mf_X5_choose_l22 {Q Q' : Int → St → Prop} {σ0 : St} (hq : ∀ (r : Int) (σ1 : St), Q r σ1 → Fr S_X5_choose σ0 σ1 → Q' r σ1) : ∀ (n : Nat) (x1 : Int) (σ : St), Fr S_X5_choose σ0 σ → wp_X5_choose_l22 Q n x1 σ → wp_X5_choose_l22 Q' n x1 σ := by
  intro n
  induction n with
  | zero => intro _ _ _ h; exact h.elim
  | succ n ih =>
    intro x1 σ f0 h
    unfold wp_X5_choose_l22 at h ⊢
    refine ⟨fun hc => ?_, fun hc => ?_⟩
    · replace h := h.1 hc
      exact hq _ _ h f0
    · replace h := h.2 hc
      exact mf_X5_choose_l35 hq ih bigN _ _ _ f0 h
set_option maxHeartbeats 1000000 in
theorem mf_X5_choose {Q Q' : Int → St → Prop} {σ0 : St} (hq : ∀ (r : Int) (σ1 : St), Q r σ1 → Fr S_X5_choose σ0 σ1 → Q' r σ1) {σ : St} (f0 : Fr S_X5_choose σ0 σ) (h : wp_X5_choose  σ Q) : wp_X5_choose  σ Q' := by
  unfold wp_X5_choose at h ⊢
  intro σ1 eσ1; replace h := h σ1 eσ1; have fσ1 : Fr S_X5_choose σ0 σ1 := by rw [eσ1]; exact f0.up rfl
  intro σ2 eσ2; replace h := h σ2 eσ2; have fσ2 : Fr S_X5_choose σ0 σ2 := by rw [eσ2]; exact fσ1.up rfl
  intro σ3 eσ3; replace h := h σ3 eσ3; have fσ3 : Fr S_X5_choose σ0 σ3 := by rw [eσ3]; exact fσ2.up rfl
  intro σ4 eσ4; replace h := h σ4 eσ4; have fσ4 : Fr S_X5_choose σ0 σ4 := by rw [eσ4]; exact fσ3.up rfl
  exact mf_X5_choose_l22 hq bigN _ _ fσ4 h
set_option maxHeartbeats 1000000 in
theorem mf_J7_fill_53178_C_c81_l5 {Q Q' : Int → St → Prop} {σ0 : St} (hq : ∀ (r : Int) (σ1 : St), Q r σ1 → Fr S_J7_fill_53178_C_c81 σ0 σ1 → Q' r σ1) : ∀ (n : Nat) (x1 : Int) (x2 : Int) (x3 : Int) (σ : St), Fr S_J7_fill_53178_C_c81 σ0 σ → wp_J7_fill_53178_C_c81_l5 Q n x1 x2 x3 σ → wp_J7_fill_53178_C_c81_l5 Q' n x1 x2 x3 σ := by
  intro n
  induction n with
  | zero => intro _ _ _ _ _ h; exact h.elim
  | succ n ih =>
    intro x1 x2 x3 σ f0 h
    unfold wp_J7_fill_53178_C_c81_l5 at h ⊢
    refine ⟨fun hc => ?_, fun hc => ?_⟩
    · replace h := h.1 hc
      exact hq _ _ h f0
    · replace h := h.2 hc
      refine ⟨h.1, fun σ1 eσ1 => ?_⟩; replace h := h.2 σ1 eσ1; have fσ1 : Fr S_J7_fill_53178_C_c81 σ0 σ1 := by rw [eσ1]; exact f0.up rfl
      intro v2 ev2; replace h := h v2 ev2
      exact ih _ _ _ _ fσ1 h
set_option maxHeartbeats 1000000 in
theorem mf_J7_fill_53178_C_c81 {Q Q' : Int → St → Prop} {σ0 : St} (hq : ∀ (r : Int) (σ1 : St), Q r σ1 → Fr S_J7_fill_53178_C_c81 σ0 σ1 → Q' r σ1) {x1 : Int} {σ : St} (f0 : Fr S_J7_fill_53178_C_c81 σ0 σ) (h : wp_J7_fill_53178_C_c81 x1 σ Q) : wp_J7_fill_53178_C_c81 x1 σ Q' := by
  unfold wp_J7_fill_53178_C_c81 at h ⊢
  exact mf_J7_fill_53178_C_c81_l5 hq bigN _ _ _ _ f0 h
set_option maxHeartbeats 1000000 in
theorem mf_X5_improve_c81 {Q Q' : Int → St → Prop} {σ0 : St} (hq : ∀ (r : Int) (σ1 : St), Q r σ1 → Fr S_X5_improve_c81 σ0 σ1 → Q' r σ1) {x1 x2 : Int} {σ : St} (f0 : Fr S_X5_improve_c81 σ0 σ) (h : wp_X5_improve_c81 x1 x2 σ Q) : wp_X5_improve_c81 x1 x2 σ Q' := by
  unfold wp_X5_improve_c81 at h ⊢
  refine ⟨h.1, ?_⟩; replace h := h.2
  intro v1 ev1; replace h := h v1 ev1
  refine mf_X1_lesser (fun r2 σ3 h gσ3 => ?_) Fr.rf h
  have fσ3 : Fr S_X5_improve_c81 σ0 σ3 := f0.tr gσ3 (mkS_sub (by decide) (by decide))
  refine ⟨h.1, fun σ4 eσ4 => ?_⟩; replace h := h.2 σ4 eσ4; have fσ4 : Fr S_X5_improve_c81 σ0 σ4 := by rw [eσ4]; exact fσ3.up rfl
  refine ⟨h.1, ?_⟩; replace h := h.2
  refine ⟨fun hc => ?_, fun hc => ?_⟩
  · replace h := h.1 hc
    exact hq _ _ h fσ4
  · replace h := h.2 hc
    exact hq _ _ h fσ4
set_option maxHeartbeats 1000000 in
theorem mf_X5_relax_b86 {Q Q' : Int → St → Prop} {σ0 : St} (hq : ∀ (r : Int) (σ1 : St), Q r σ1 → Fr S_X5_relax σ0 σ1 → Q' r σ1) {K4 K4' : Int → Int → Int → St → Prop} (hK4 : ∀ (x1 : Int) (x2 : Int) (x3 : Int) (σ : St), Fr S_X5_relax σ0 σ → K4 x1 x2 x3 σ → K4' x1 x2 x3 σ) {x1 x2 x3 : Int} {σ : St} (f0 : Fr S_X5_relax σ0 σ) (h : wp_X5_relax_b86 Q K4 x1 x2 x3 σ) : wp_X5_relax_b86 Q' K4' x1 x2 x3 σ := by
  unfold wp_X5_relax_b86 at h ⊢
  intro v6 ev6; replace h := h v6 ev6
  exact hK4 _ _ _ _ f0 h
set_option maxHeartbeats 1000000 in
theorem mf_X5_relax_l4 {Q Q' : Int → St → Prop} {σ0 : St} (hq : ∀ (r : Int) (σ1 : St), Q r σ1 → Fr S_X5_relax σ0 σ1 → Q' r σ1) : ∀ (n : Nat) (x1 : Int) (x2 : Int) (x3 : Int) (σ : St), Fr S_X5_relax σ0 σ → wp_X5_relax_l4 Q n x1 x2 x3 σ → wp_X5_relax_l4 Q' n x1 x2 x3 σ := by
  intro n
  induction n with
  | zero => intro _ _ _ _ _ h; exact h.elim
  | succ n ih =>
    intro x1 x2 x3 σ f0 h
    unfold wp_X5_relax_l4 at h ⊢
    refine ⟨fun hc => ?_, fun hc => ?_⟩
    · replace h := h.1 hc
      exact ⟨h.1, hq _ _ h.2 f0⟩
    · replace h := h.2 hc
      refine ⟨h.1, ?_⟩; replace h := h.2
      intro v1 ev1; replace h := h v1 ev1
      refine ⟨h.1, ?_⟩; replace h := h.2
      refine ⟨h.1, ?_⟩; replace h := h.2
      intro v2 ev2; replace h := h v2 ev2
      refine ⟨fun hc => ?_, fun hc => ?_⟩
      · replace h := h.1 hc
        exact mf_X5_relax_b86 hq ih f0 h
      · replace h := h.2 hc
        refine ⟨h.1, ?_⟩; replace h := h.2
        refine ⟨h.1, ?_⟩; replace h := h.2
        refine mf_X5_improve_c81 (fun r3 σ4 h gσ4 => ?_) Fr.rf h
        have fσ4 : Fr S_X5_relax σ0 σ4 := f0.tr gσ4 (mkS_sub (by decide) (by decide))
        intro v5 ev5; replace h := h v5 ev5
        exact mf_X5_relax_b86 hq ih fσ4 h
set_option maxHeartbeats 1000000 in
theorem mf_X5_relax {Q Q' : Int → St → Prop} {σ0 : St} (hq : ∀ (r : Int) (σ1 : St), Q r σ1 → Fr S_X5_relax σ0 σ1 → Q' r σ1) {x1 : Int} {σ : St} (f0 : Fr S_X5_relax σ0 σ) (h : wp_X5_relax x1 σ Q) : wp_X5_relax x1 σ Q' := by
  unfold wp_X5_relax at h ⊢
  exact mf_X5_relax_l4 hq bigN _ _ _ _ f0 h
set_option maxHeartbeats 1000000 in
theorem mf_X5_goToParts_b186 {Q Q' : Int → St → Prop} {σ0 : St} (hq : ∀ (r : Int) (σ1 : St), Q r σ1 → Fr S_X5_goToParts σ0 σ1 → Q' r σ1) {K9 K9' : Int → Int → St → Prop} (hK9 : ∀ (x1 : Int) (x2 : Int) (σ : St), Fr S_X5_goToParts σ0 σ → K9 x1 x2 σ → K9' x1 x2 σ) {x1 x2 : Int} {σ : St} (f0 : Fr S_X5_goToParts σ0 σ) (h : wp_X5_goToParts_b186 Q K9 x1 x2 σ) : wp_X5_goToParts_b186 Q' K9' x1 x2 σ := by
  unfold wp_X5_goToParts_b186 at h ⊢
  intro v12 ev12; replace h := h v12 ev12
  exact hK9 _ _ _ f0 h
set_option maxHeartbeats 1000000 in
theorem mf_X5_goToParts_b156 {Q Q' : Int → St → Prop} {σ0 : St} (hq : ∀ (r : Int) (σ1 : St), Q r σ1 → Fr S_X5_goToParts σ0 σ1 → Q' r σ1) {K9 K9' : Int → Int → St → Prop} (hK9 : ∀ (x1 : Int) (x2 : Int) (σ : St), Fr S_X5_goToParts σ0 σ → K9 x1 x2 σ → K9' x1 x2 σ) {x1 x2 x4 x5 x6 x8 : Int} {σ : St} (f0 : Fr S_X5_goToParts σ0 σ) (h : wp_X5_goToParts_b156 Q K9 x1 x2 x4 x5 x6 x8 σ) : wp_X5_goToParts_b156 Q' K9' x1 x2 x4 x5 x6 x8 σ := by
  unfold wp_X5_goToParts_b156 at h ⊢
  refine ⟨fun hc => ?_, fun hc => ?_⟩
  · replace h := h.1 hc
    exact mf_X5_goToParts_b186 hq hK9 f0 h
  · replace h := h.2 hc
    refine ⟨fun hc => ?_, fun hc => ?_⟩
    · replace h := h.1 hc
      exact mf_X5_goToParts_b186 hq hK9 f0 h
    · replace h := h.2 hc
      refine ⟨fun hc => ?_, fun hc => ?_⟩
      · replace h := h.1 hc
        exact mf_X5_goToParts_b186 hq hK9 f0 h
      · replace h := h.2 hc
        refine mf_X5_improve_c81 (fun r10 σ11 h gσ11 => ?_) Fr.rf h
        have fσ11 : Fr S_X5_goToParts σ0 σ11 := f0.tr gσ11 (mkS_sub (by decide) (by decide))
        exact mf_X5_goToParts_b186 hq hK9 fσ11 h
set_option maxHeartbeats 1000000 in
theorem mf_X5_goToParts_b126 {Q Q' : Int → St → Prop} {σ0 : St} (hq : ∀ (r : Int) (σ1 : St), Q r σ1 → Fr S_X5_goToParts σ0 σ1 → Q' r σ1) {K9 K9' : Int → Int → St → Prop} (hK9 : ∀ (x1 : Int) (x2 : Int) (σ : St), Fr S_X5_goToParts σ0 σ → K9 x1 x2 σ → K9' x1 x2 σ) {x1 x2 x3 x4 x5 x6 x7 s0 : Int} {σ : St} (f0 : Fr S_X5_goToParts σ0 σ) (h : wp_X5_goToParts_b126 Q K9 x1 x2 x3 x4 x5 x6 x7 s0 σ) : wp_X5_goToParts_b126 Q' K9' x1 x2 x3 x4 x5 x6 x7 s0 σ := by
  unfold wp_X5_goToParts_b126 at h ⊢
  refine ⟨fun hc => ?_, fun hc => ?_⟩
  · replace h := h.1 hc
    exact mf_X5_goToParts_b156 hq hK9 f0 h
  · replace h := h.2 hc
    refine ⟨fun hc => ?_, fun hc => ?_⟩
    · replace h := h.1 hc
      exact mf_X5_goToParts_b156 hq hK9 f0 h
    · replace h := h.2 hc
      refine ⟨fun hc => ?_, fun hc => ?_⟩
      · replace h := h.1 hc
        exact mf_X5_goToParts_b156 hq hK9 f0 h
      · replace h := h.2 hc
        refine mf_X5_improve_c81 (fun r8 σ9 h gσ9 => ?_) Fr.rf h
        have fσ9 : Fr S_X5_goToParts σ0 σ9 := f0.tr gσ9 (mkS_sub (by decide) (by decide))
        exact mf_X5_goToParts_b156 hq hK9 fσ9 h
set_option maxHeartbeats 1000000 in
theorem mf_X5_goToParts_b106 {Q Q' : Int → St → Prop} {σ0 : St} (hq : ∀ (r : Int) (σ1 : St), Q r σ1 → Fr S_X5_goToParts σ0 σ1 → Q' r σ1) {K9 K9' : Int → Int → St → Prop} (hK9 : ∀ (x1 : Int) (x2 : Int) (σ : St), Fr S_X5_goToParts σ0 σ → K9 x1 x2 σ → K9' x1 x2 σ) {x1 x2 x3 x4 x5 x6 s0 : Int} {σ : St} (f0 : Fr S_X5_goToParts σ0 σ) (h : wp_X5_goToParts_b106 Q K9 x1 x2 x3 x4 x5 x6 s0 σ) : wp_X5_goToParts_b106 Q' K9' x1 x2 x3 x4 x5 x6 s0 σ := by
  unfold wp_X5_goToParts_b106 at h ⊢
  refine ⟨h.1, ?_⟩; replace h := h.2
  refine ⟨fun hc => ?_, fun hc => ?_⟩
  · replace h := h.1 hc
    exact mf_X5_goToParts_b126 hq hK9 f0 h
  · replace h := h.2 hc
    exact mf_X5_goToParts_b126 hq hK9 f0 h
set_option maxHeartbeats 1000000 in
theorem mf_X5_goToParts_b85 {Q Q' : Int → St → Prop} {σ0 : St} (hq : ∀ (r : Int) (σ1 : St), Q r σ1 → Fr S_X5_goToParts σ0 σ1 → Q' r σ1) {K9 K9' : Int → Int → St → Prop} (hK9 : ∀ (x1 : Int) (x2 : Int) (σ : St), Fr S_X5_goToParts σ0 σ → K9 x1 x2 σ → K9' x1 x2 σ) {x1 x2 x3 x4 x5 s0 : Int} {σ : St} (f0 : Fr S_X5_goToParts σ0 σ) (h : wp_X5_goToParts_b85 Q K9 x1 x2 x3 x4 x5 s0 σ) : wp_X5_goToParts_b85 Q' K9' x1 x2 x3 x4 x5 s0 σ := by
  unfold wp_X5_goToParts_b85 at h ⊢
  refine ⟨fun hc => ?_, fun hc => ?_⟩
  · replace h := h.1 hc
    refine ⟨h.1, ?_⟩; replace h := h.2
    exact mf_X5_goToParts_b106 hq hK9 f0 h
  · replace h := h.2 hc
    exact mf_X5_goToParts_b106 hq hK9 f0 h
set_option maxHeartbeats 1000000 in
theorem mf_X5_goToParts_l9 {Q Q' : Int → St → Prop} {σ0 : St} (hq : ∀ (r : Int) (σ1 : St), Q r σ1 → Fr S_X5_goToParts σ0 σ1 → Q' r σ1) : ∀ (n : Nat) (x1 : Int) (x2 : Int) (σ : St), Fr S_X5_goToParts σ0 σ → wp_X5_goToParts_l9 Q n x1 x2 σ → wp_X5_goToParts_l9 Q' n x1 x2 σ := by
  intro n
  induction n with
  | zero => intro _ _ _ _ h; exact h.elim
  | succ n ih =>
    intro x1 x2 σ f0 h
    unfold wp_X5_goToParts_l9 at h ⊢
    refine mf_X0_caseEnd (fun r3 σ4 h gσ4 => ?_) Fr.rf h
    have fσ4 : Fr S_X5_goToParts σ0 σ4 := f0.tr gσ4 (mkS_sub (by decide) (by decide))
    refine ⟨fun hc => ?_, fun hc => ?_⟩
    · replace h := h.1 hc
      exact hq _ _ h fσ4
    · replace h := h.2 hc
      refine ⟨h.1, ?_⟩; replace h := h.2
      intro v5 ev5; replace h := h v5 ev5
      refine ⟨h.1, ?_⟩; replace h := h.2
      intro v6 ev6; replace h := h v6 ev6
      refine ⟨h.1, ?_⟩; replace h := h.2
      refine ⟨h.1, ?_⟩; replace h := h.2
      refine ⟨h.1, ?_⟩; replace h := h.2
      intro v7 ev7; replace h := h v7 ev7
      refine ⟨fun hc => ?_, fun hc => ?_⟩
      · replace h := h.1 hc
        refine ⟨h.1, ?_⟩; replace h := h.2
        exact mf_X5_goToParts_b85 hq ih fσ4 h
      · replace h := h.2 hc
        exact mf_X5_goToParts_b85 hq ih fσ4 h
set_option maxHeartbeats 1000000 in
theorem mf_X5_goToParts {Q Q' : Int → St → Prop} {σ0 : St} (hq : ∀ (r : Int) (σ1 : St), Q r σ1 → Fr S_X5_goToParts σ0 σ1 → Q' r σ1) {x1 : Int} {σ : St} (f0 : Fr S_X5_goToParts σ0 σ) (h : wp_X5_goToParts x1 σ Q) : wp_X5_goToParts x1 σ Q' := by
  unfold wp_X5_goToParts at h ⊢
  refine mf_X0_caseStart (fun r1 σ2 h gσ2 => ?_) Fr.rf h
  have fσ2 : Fr S_X5_goToParts σ0 σ2 := f0.tr gσ2 (mkS_sub (by decide) (by decide))
  exact mf_X5_goToParts_l9 hq bigN _ _ _ fσ2 h
set_option maxHeartbeats 1000000 in
theorem mf_X5_goDown_b94 {Q Q' : Int → St → Prop} {σ0 : St} (hq : ∀ (r : Int) (σ1 : St), Q r σ1 → Fr S_X5_goDown σ0 σ1 → Q' r σ1) {K25 K25' : Int → St → Prop} (hK25 : ∀ (x2 : Int) (σ : St), Fr S_X5_goDown σ0 σ → K25 x2 σ → K25' x2 σ) {K68 K68' : Int → Int → Int → St → Prop} (hK68 : ∀ (x2 : Int) (x3 : Int) (x5 : Int) (σ : St), Fr S_X5_goDown σ0 σ → K68 x2 x3 x5 σ → K68' x2 x3 x5 σ) {x2 x3 x5 : Int} {σ : St} (f0 : Fr S_X5_goDown σ0 σ) (h : wp_X5_goDown_b94 Q K25 K68 x2 x3 x5 σ) : wp_X5_goDown_b94 Q' K25' K68' x2 x3 x5 σ := by
  unfold wp_X5_goDown_b94 at h ⊢
  intro v12 ev12; replace h := h v12 ev12
  exact hK68 _ _ _ _ f0 h
set_option maxHeartbeats 1000000 in
theorem mf_X5_goDown_l68 {Q Q' : Int → St → Prop} {σ0 : St} (hq : ∀ (r : Int) (σ1 : St), Q r σ1 → Fr S_X5_goDown σ0 σ1 → Q' r σ1) {K25 K25' : Int → St → Prop} (hK25 : ∀ (x2 : Int) (σ : St), Fr S_X5_goDown σ0 σ → K25 x2 σ → K25' x2 σ) : ∀ (n : Nat) (x2 : Int) (x3 : Int) (x5 : Int) (σ : St), Fr S_X5_goDown σ0 σ → wp_X5_goDown_l68 Q K25 n x2 x3 x5 σ → wp_X5_goDown_l68 Q' K25' n x2 x3 x5 σ := by
  intro n
  induction n with
  | zero => intro _ _ _ _ _ h; exact h.elim
  | succ n ih =>
    intro x2 x3 x5 σ f0 h
    unfold wp_X5_goDown_l68 at h ⊢
    refine ⟨fun hc => ?_, fun hc => ?_⟩
    · replace h := h.1 hc
      intro v9 ev9; replace h := h v9 ev9
      exact hK25 _ _ f0 h
    · replace h := h.2 hc
      refine ⟨h.1, ?_⟩; replace h := h.2
      refine ⟨fun hc => ?_, fun hc => ?_⟩
      · replace h := h.1 hc
        exact mf_X5_goDown_b94 hq hK25 ih f0 h
      · replace h := h.2 hc
        refine mf_X5_goToParts (fun r10 σ11 h gσ11 => ?_) Fr.rf h
        have fσ11 : Fr S_X5_goDown σ0 σ11 := f0.tr gσ11 (mkS_sub (by decide) (by decide))
        exact mf_X5_goDown_b94 hq hK25 ih fσ11 h
set_option maxHeartbeats 1000000 in
theorem mf_X5_goDown_b65 {Q Q' : Int → St → Prop} {σ0 : St} (hq : ∀ (r : Int) (σ1 : St), Q r σ1 → Fr S_X5_goDown σ0 σ1 → Q' r σ1) {K25 K25' : Int → St → Prop} (hK25 : ∀ (x2 : Int) (σ : St), Fr S_X5_goDown σ0 σ → K25 x2 σ → K25' x2 σ) {x2 x3 : Int} {σ : St} (f0 : Fr S_X5_goDown σ0 σ) (h : wp_X5_goDown_b65 Q K25 x2 x3 σ) : wp_X5_goDown_b65 Q' K25' x2 x3 σ := by
  unfold wp_X5_goDown_b65 at h ⊢
  exact mf_X5_goDown_l68 hq hK25 bigN _ _ _ _ f0 h
set_option maxHeartbeats 1000000 in
theorem mf_X5_goDown_l40 {Q Q' : Int → St → Prop} {σ0 : St} (hq : ∀ (r : Int) (σ1 : St), Q r σ1 → Fr S_X5_goDown σ0 σ1 → Q' r σ1) {K25 K25' : Int → St → Prop} (hK25 : ∀ (x2 : Int) (σ : St), Fr S_X5_goDown σ0 σ → K25 x2 σ → K25' x2 σ) : ∀ (n : Nat) (x2 : Int) (x3 : Int) (x4 : Int) (x5 : Int) (σ : St), Fr S_X5_goDown σ0 σ → wp_X5_goDown_l40 Q K25 n x2 x3 x4 x5 σ → wp_X5_goDown_l40 Q' K25' n x2 x3 x4 x5 σ := by
  intro n
  induction n with
  | zero => intro _ _ _ _ _ _ h; exact h.elim
  | succ n ih =>
    intro x2 x3 x4 x5 σ f0 h
    unfold wp_X5_goDown_l40 at h ⊢
    refine ⟨fun hc => ?_, fun hc => ?_⟩
    · replace h := h.1 hc
      exact mf_X5_goDown_b65 hq hK25 f0 h
    · replace h := h.2 hc
      refine ⟨fun hc => ?_, fun hc => ?_⟩
      · replace h := h.1 hc
        exact mf_X5_goDown_b65 hq hK25 f0 h
      · replace h := h.2 hc
        refine mf_X5_relax (fun r6 σ7 h gσ7 => ?_) Fr.rf h
        have fσ7 : Fr S_X5_goDown σ0 σ7 := f0.tr gσ7 (mkS_sub (by decide) (by decide))
        intro v8 ev8; replace h := h v8 ev8
        exact ih _ _ _ _ _ fσ7 h
set_option maxHeartbeats 1000000 in
theorem mf_X5_goDown_l25 {Q Q' : Int → St → Prop} {σ0 : St} (hq : ∀ (r : Int) (σ1 : St), Q r σ1 → Fr S_X5_goDown σ0 σ1 → Q' r σ1) : ∀ (n : Nat) (x2 : Int) (σ : St), Fr S_X5_goDown σ0 σ → wp_X5_goDown_l25 Q n x2 σ → wp_X5_goDown_l25 Q' n x2 σ := by
  intro n
  induction n with
  | zero => intro _ _ _ h; exact h.elim
  | succ n ih =>
    intro x2 σ f0 h
    unfold wp_X5_goDown_l25 at h ⊢
    refine ⟨fun hc => ?_, fun hc => ?_⟩
    · replace h := h.1 hc
      exact hq _ _ h f0
    · replace h := h.2 hc
      intro v5 ev5; replace h := h v5 ev5
      exact mf_X5_goDown_l40 hq ih bigN _ _ _ _ _ f0 h
set_option maxHeartbeats 1000000 in
theorem mf_X5_goDown {Q Q' : Int → St → Prop} {σ0 : St} (hq : ∀ (r : Int) (σ1 : St), Q r σ1 → Fr S_X5_goDown σ0 σ1 → Q' r σ1) {x1 : Int} {σ : St} (f0 : Fr S_X5_goDown σ0 σ) (h : wp_X5_goDown x1 σ Q) : wp_X5_goDown x1 σ Q' := by
  unfold wp_X5_goDown at h ⊢
  refine mf_J7_fill_53178_C_c81 (fun r1 σ2 h gσ2 => ?_) Fr.rf h
  have fσ2 : Fr S_X5_goDown σ0 σ2 := f0.tr gσ2 (mkS_sub (by decide) (by decide))
  refine ⟨h.1, fun σ3 eσ3 => ?_⟩; replace h := h.2 σ3 eσ3; have fσ3 : Fr S_X5_goDown σ0 σ3 := by rw [eσ3]; exact fσ2.up rfl
  intro v4 ev4; replace h := h v4 ev4
  exact mf_X5_goDown_l25 hq bigN _ _ fσ3 h
set_option maxHeartbeats 1000000 in
theorem mf_X5_partCost_b52 {Q Q' : Int → St → Prop} {σ0 : St} (hq : ∀ (r : Int) (σ1 : St), Q r σ1 → Fr S_X5_partCost σ0 σ1 → Q' r σ1) {σ : St} (f0 : Fr S_X5_partCost σ0 σ) (h : wp_X5_partCost_b52 Q  σ) : wp_X5_partCost_b52 Q'  σ := by
  unfold wp_X5_partCost_b52 at h ⊢
  exact hq _ _ h f0
set_option maxHeartbeats 1000000 in
theorem mf_X5_partCost {Q Q' : Int → St → Prop} {σ0 : St} (hq : ∀ (r : Int) (σ1 : St), Q r σ1 → Fr S_X5_partCost σ0 σ1 → Q' r σ1) {x1 x2 x3 : Int} {σ : St} (f0 : Fr S_X5_partCost σ0 σ) (h : wp_X5_partCost x1 x2 x3 σ Q) : wp_X5_partCost x1 x2 x3 σ Q' := by
  unfold wp_X5_partCost at h ⊢
  refine ⟨fun hc => ?_, fun hc => ?_⟩
  · replace h := h.1 hc
    refine ⟨fun hc => ?_, fun hc => ?_⟩
    · replace h := h.1 hc
      exact mf_X5_partCost_b52 hq f0 h
    · replace h := h.2 hc
      refine ⟨h.1, ?_⟩; replace h := h.2
      refine ⟨fun hc => ?_, fun hc => ?_⟩
      · replace h := h.1 hc
        exact mf_X5_partCost_b52 hq f0 h
      · replace h := h.2 hc
        exact hq _ _ h f0
  · replace h := h.2 hc
    refine mf_X0_itemAt (fun r1 σ2 h gσ2 => ?_) Fr.rf h
    have fσ2 : Fr S_X5_partCost σ0 σ2 := f0.tr gσ2 (mkS_sub (by decide) (by decide))
    refine ⟨h.1, ?_⟩; replace h := h.2
    exact hq _ _ h fσ2
set_option maxHeartbeats 1000000 in
theorem mf_X5_improve_c82 {Q Q' : Int → St → Prop} {σ0 : St} (hq : ∀ (r : Int) (σ1 : St), Q r σ1 → Fr S_X5_improve_c82 σ0 σ1 → Q' r σ1) {x1 x2 : Int} {σ : St} (f0 : Fr S_X5_improve_c82 σ0 σ) (h : wp_X5_improve_c82 x1 x2 σ Q) : wp_X5_improve_c82 x1 x2 σ Q' := by
  unfold wp_X5_improve_c82 at h ⊢
  refine ⟨h.1, ?_⟩; replace h := h.2
  intro v1 ev1; replace h := h v1 ev1
  refine mf_X1_lesser (fun r2 σ3 h gσ3 => ?_) Fr.rf h
  have fσ3 : Fr S_X5_improve_c82 σ0 σ3 := f0.tr gσ3 (mkS_sub (by decide) (by decide))
  refine ⟨h.1, fun σ4 eσ4 => ?_⟩; replace h := h.2 σ4 eσ4; have fσ4 : Fr S_X5_improve_c82 σ0 σ4 := by rw [eσ4]; exact fσ3.up rfl
  refine ⟨h.1, ?_⟩; replace h := h.2
  refine ⟨fun hc => ?_, fun hc => ?_⟩
  · replace h := h.1 hc
    exact hq _ _ h fσ4
  · replace h := h.2 hc
    exact hq _ _ h fσ4
set_option maxHeartbeats 1000000 in
theorem mf_X5_tryLetter {Q Q' : Int → St → Prop} {σ0 : St} (hq : ∀ (r : Int) (σ1 : St), Q r σ1 → Fr S_X5_tryLetter σ0 σ1 → Q' r σ1) {x1 x2 x3 x4 : Int} {σ : St} (f0 : Fr S_X5_tryLetter σ0 σ) (h : wp_X5_tryLetter x1 x2 x3 x4 σ Q) : wp_X5_tryLetter x1 x2 x3 x4 σ Q' := by
  unfold wp_X5_tryLetter at h ⊢
  refine ⟨fun hc => ?_, fun hc => ?_⟩
  · replace h := h.1 hc
    exact hq _ _ h f0
  · replace h := h.2 hc
    refine ⟨fun hc => ?_, fun hc => ?_⟩
    · replace h := h.1 hc
      exact hq _ _ h f0
    · replace h := h.2 hc
      refine mf_X5_improve_c82 (fun r1 σ2 h gσ2 => ?_) Fr.rf h
      have fσ2 : Fr S_X5_tryLetter σ0 σ2 := f0.tr gσ2 (mkS_sub (by decide) (by decide))
      exact hq _ _ h fσ2
set_option maxHeartbeats 1000000 in
theorem mf_X5_tryRule_b94 {Q Q' : Int → St → Prop} {σ0 : St} (hq : ∀ (r : Int) (σ1 : St), Q r σ1 → Fr S_X5_tryRule σ0 σ1 → Q' r σ1) {x1 x5 s0 s1 s2 : Int} {σ : St} (f0 : Fr S_X5_tryRule σ0 σ) (h : wp_X5_tryRule_b94 Q x1 x5 s0 s1 s2 σ) : wp_X5_tryRule_b94 Q' x1 x5 s0 s1 s2 σ := by
  unfold wp_X5_tryRule_b94 at h ⊢
  refine ⟨h.1, ?_⟩; replace h := h.2
  refine mf_X5_tryLetter (fun r14 σ15 h gσ15 => ?_) Fr.rf h
  have fσ15 : Fr S_X5_tryRule σ0 σ15 := f0.tr gσ15 (mkS_sub (by decide) (by decide))
  exact hq _ _ h fσ15
set_option maxHeartbeats 1000000 in
theorem mf_X5_tryRule {Q Q' : Int → St → Prop} {σ0 : St} (hq : ∀ (r : Int) (σ1 : St), Q r σ1 → Fr S_X5_tryRule σ0 σ1 → Q' r σ1) {x1 x2 : Int} {σ : St} (f0 : Fr S_X5_tryRule σ0 σ) (h : wp_X5_tryRule x1 x2 σ Q) : wp_X5_tryRule x1 x2 σ Q' := by
  unfold wp_X5_tryRule at h ⊢
  refine ⟨h.1, ?_⟩; replace h := h.2
  intro v1 ev1; replace h := h v1 ev1
  refine ⟨h.1, ?_⟩; replace h := h.2
  intro v2 ev2; replace h := h v2 ev2
  refine ⟨h.1, ?_⟩; replace h := h.2
  refine ⟨h.1, ?_⟩; replace h := h.2
  intro v3 ev3; replace h := h v3 ev3
  refine ⟨h.1, ?_⟩; replace h := h.2
  intro v4 ev4; replace h := h v4 ev4
  refine ⟨h.1, ?_⟩; replace h := h.2
  intro v5 ev5; replace h := h v5 ev5
  refine ⟨fun hc => ?_, fun hc => ?_⟩
  · replace h := h.1 hc
    refine ⟨fun hc => ?_, fun hc => ?_⟩
    · replace h := h.1 hc
      refine ⟨fun hc => ?_, fun hc => ?_⟩
      · replace h := h.1 hc
        exact hq _ _ h f0
      · replace h := h.2 hc
        refine mf_X5_partCost (fun r6 σ7 h gσ7 => ?_) Fr.rf h
        have fσ7 : Fr S_X5_tryRule σ0 σ7 := f0.tr gσ7 (mkS_sub (by decide) (by decide))
        refine ⟨h.1, ?_⟩; replace h := h.2
        refine mf_X5_tryLetter (fun r8 σ9 h gσ9 => ?_) Fr.rf h
        have fσ9 : Fr S_X5_tryRule σ0 σ9 := fσ7.tr gσ9 (mkS_sub (by decide) (by decide))
        refine mf_X5_partCost (fun r10 σ11 h gσ11 => ?_) Fr.rf h
        have fσ11 : Fr S_X5_tryRule σ0 σ11 := fσ9.tr gσ11 (mkS_sub (by decide) (by decide))
        refine ⟨h.1, ?_⟩; replace h := h.2
        refine mf_X5_tryLetter (fun r12 σ13 h gσ13 => ?_) Fr.rf h
        have fσ13 : Fr S_X5_tryRule σ0 σ13 := fσ11.tr gσ13 (mkS_sub (by decide) (by decide))
        exact hq _ _ h fσ13
    · replace h := h.2 hc
      refine ⟨fun hc => ?_, fun hc => ?_⟩
      · replace h := h.1 hc
        exact mf_X5_tryRule_b94 hq f0 h
      · replace h := h.2 hc
        exact mf_X5_tryRule_b94 hq f0 h
  · replace h := h.2 hc
    exact hq _ _ h f0
set_option maxHeartbeats 1000000 in
theorem mf_X5_prepare_b81 {Q Q' : Int → St → Prop} {σ0 : St} (hq : ∀ (r : Int) (σ1 : St), Q r σ1 → Fr S_X5_prepare σ0 σ1 → Q' r σ1) {K39 K39' : Int → St → Prop} (hK39 : ∀ (x2 : Int) (σ : St), Fr S_X5_prepare σ0 σ → K39 x2 σ → K39' x2 σ) {K52 K52' : Int → Int → St → Prop} (hK52 : ∀ (x2 : Int) (x3 : Int) (σ : St), Fr S_X5_prepare σ0 σ → K52 x2 x3 σ → K52' x2 x3 σ) {x2 x3 : Int} {σ : St} (f0 : Fr S_X5_prepare σ0 σ) (h : wp_X5_prepare_b81 Q K39 K52 x2 x3 σ) : wp_X5_prepare_b81 Q' K39' K52' x2 x3 σ := by
  unfold wp_X5_prepare_b81 at h ⊢
  intro v15 ev15; replace h := h v15 ev15
  exact hK52 _ _ _ f0 h
set_option maxHeartbeats 1000000 in
theorem mf_X5_prepare_l52 {Q Q' : Int → St → Prop} {σ0 : St} (hq : ∀ (r : Int) (σ1 : St), Q r σ1 → Fr S_X5_prepare σ0 σ1 → Q' r σ1) {K39 K39' : Int → St → Prop} (hK39 : ∀ (x2 : Int) (σ : St), Fr S_X5_prepare σ0 σ → K39 x2 σ → K39' x2 σ) : ∀ (n : Nat) (x2 : Int) (x3 : Int) (σ : St), Fr S_X5_prepare σ0 σ → wp_X5_prepare_l52 Q K39 n x2 x3 σ → wp_X5_prepare_l52 Q' K39' n x2 x3 σ := by
  intro n
  induction n with
  | zero => intro _ _ _ _ h; exact h.elim
  | succ n ih =>
    intro x2 x3 σ f0 h
    unfold wp_X5_prepare_l52 at h ⊢
    refine ⟨fun hc => ?_, fun hc => ?_⟩
    · replace h := h.1 hc
      intro v12 ev12; replace h := h v12 ev12
      exact hK39 _ _ f0 h
    · replace h := h.2 hc
      refine ⟨h.1, ?_⟩; replace h := h.2
      refine ⟨fun hc => ?_, fun hc => ?_⟩
      · replace h := h.1 hc
        exact mf_X5_prepare_b81 hq hK39 ih f0 h
      · replace h := h.2 hc
        refine mf_X5_tryRule (fun r13 σ14 h gσ14 => ?_) Fr.rf h
        have fσ14 : Fr S_X5_prepare σ0 σ14 := f0.tr gσ14 (mkS_sub (by decide) (by decide))
        exact mf_X5_prepare_b81 hq hK39 ih fσ14 h
set_option maxHeartbeats 1000000 in
theorem mf_X5_prepare_l39 {Q Q' : Int → St → Prop} {σ0 : St} (hq : ∀ (r : Int) (σ1 : St), Q r σ1 → Fr S_X5_prepare σ0 σ1 → Q' r σ1) : ∀ (n : Nat) (x2 : Int) (σ : St), Fr S_X5_prepare σ0 σ → wp_X5_prepare_l39 Q n x2 σ → wp_X5_prepare_l39 Q' n x2 σ := by
  intro n
  induction n with
  | zero => intro _ _ _ h; exact h.elim
  | succ n ih =>
    intro x2 σ f0 h
    unfold wp_X5_prepare_l39 at h ⊢
    refine ⟨fun hc => ?_, fun hc => ?_⟩
    · replace h := h.1 hc
      refine mf_X5_choose (fun r10 σ11 h gσ11 => ?_) Fr.rf h
      have fσ11 : Fr S_X5_prepare σ0 σ11 := f0.tr gσ11 (mkS_sub (by decide) (by decide))
      exact hq _ _ h fσ11
    · replace h := h.2 hc
      exact mf_X5_prepare_l52 hq ih bigN _ _ _ f0 h
set_option maxHeartbeats 1000000 in
theorem mf_X5_prepare {Q Q' : Int → St → Prop} {σ0 : St} (hq : ∀ (r : Int) (σ1 : St), Q r σ1 → Fr S_X5_prepare σ0 σ1 → Q' r σ1) {x1 : Int} {σ : St} (f0 : Fr S_X5_prepare σ0 σ) (h : wp_X5_prepare x1 σ Q) : wp_X5_prepare x1 σ Q' := by
  unfold wp_X5_prepare at h ⊢
  refine ⟨fun hc => ?_, fun hc => ?_⟩
  · replace h := h.1 hc
    intro σ1 eσ1; replace h := h σ1 eσ1; have fσ1 : Fr S_X5_prepare σ0 σ1 := by rw [eσ1]; exact f0.up rfl
    refine mf_J7_fill_53178_C_c82 (fun r2 σ3 h gσ3 => ?_) Fr.rf h
    have fσ3 : Fr S_X5_prepare σ0 σ3 := fσ1.tr gσ3 (mkS_sub (by decide) (by decide))
    refine ⟨fun hc => ?_, fun hc => ?_⟩
    · replace h := h.1 hc
      refine mf_X5_choose (fun r4 σ5 h gσ5 => ?_) Fr.rf h
      have fσ5 : Fr S_X5_prepare σ0 σ5 := fσ3.tr gσ5 (mkS_sub (by decide) (by decide))
      exact hq _ _ h fσ5
    · replace h := h.2 hc
      refine mf_X1_prepare (fun r6 σ7 h gσ7 => ?_) Fr.rf h
      have fσ7 : Fr S_X5_prepare σ0 σ7 := fσ3.tr gσ7 (mkS_sub (by decide) (by decide))
      refine mf_X5_goDown (fun r8 σ9 h gσ9 => ?_) Fr.rf h
      have fσ9 : Fr S_X5_prepare σ0 σ9 := fσ7.tr gσ9 (mkS_sub (by decide) (by decide))
      exact mf_X5_prepare_l39 hq bigN _ _ fσ9 h
  · replace h := h.2 hc
    exact hq _ _ h f0
set_option maxHeartbeats 1000000 in
theorem mf_X11_mends {Q Q' : Int → St → Prop} {σ0 : St} (hq : ∀ (r : Int) (σ1 : St), Q r σ1 → Fr S_X11_mends σ0 σ1 → Q' r σ1) {σ : St} (f0 : Fr S_X11_mends σ0 σ) (h : wp_X11_mends  σ Q) : wp_X11_mends  σ Q' := by
  unfold wp_X11_mends at h ⊢
  refine mf_X11_wholeItem (fun r1 σ2 h gσ2 => ?_) Fr.rf h
  have fσ2 : Fr S_X11_mends σ0 σ2 := f0.tr gσ2 (mkS_sub (by decide) (by decide))
  refine mf_X5_prepare (fun r3 σ4 h gσ4 => ?_) Fr.rf h
  have fσ4 : Fr S_X11_mends σ0 σ4 := fσ2.tr gσ4 (mkS_sub (by decide) (by decide))
  exact hq _ _ h fσ4
set_option maxHeartbeats 1000000 in
theorem mf_X11_mend {Q Q' : Int → St → Prop} {σ0 : St} (hq : ∀ (r : Int) (σ1 : St), Q r σ1 → Fr S_X11_mend σ0 σ1 → Q' r σ1) {x1 : Int} {σ : St} (f0 : Fr S_X11_mend σ0 σ) (h : wp_X11_mend x1 σ Q) : wp_X11_mend x1 σ Q' := by
  unfold wp_X11_mend at h ⊢
  refine ⟨fun hc => ?_, fun hc => ?_⟩
  · replace h := h.1 hc
    exact hq _ _ h f0
  · replace h := h.2 hc
    refine ⟨fun hc => ?_, fun hc => ?_⟩
    · replace h := h.1 hc
      refine mf_X11_wholeItem (fun r1 σ2 h gσ2 => ?_) Fr.rf h
      have fσ2 : Fr S_X11_mend σ0 σ2 := f0.tr gσ2 (mkS_sub (by decide) (by decide))
      refine mf_X5_prepare (fun r3 σ4 h gσ4 => ?_) Fr.rf h
      have fσ4 : Fr S_X11_mend σ0 σ4 := fσ2.tr gσ4 (mkS_sub (by decide) (by decide))
      refine ⟨fun hs0 => ?_, fun hs1 => ?_, fun hs2 => ?_⟩
      · replace h := h.1 hs0
        exact hq _ _ h fσ4
      · replace h := h.2.1 hs1
        exact hq _ _ h fσ4
      · replace h := h.2.2 hs2
        exact hq _ _ h fσ4
    · replace h := h.2 hc
      exact hq _ _ h f0
set_option maxHeartbeats 1000000 in
theorem mf_X4_labelsOnRings_b70 {Q Q' : Int → St → Prop} {σ0 : St} (hq : ∀ (r : Int) (σ1 : St), Q r σ1 → Fr S_X4_labelsOnRings σ0 σ1 → Q' r σ1) {K23 K23' : Int → St → Prop} (hK23 : ∀ (x1 : Int) (σ : St), Fr S_X4_labelsOnRings σ0 σ → K23 x1 σ → K23' x1 σ) {x1 : Int} {σ : St} (f0 : Fr S_X4_labelsOnRings σ0 σ) (h : wp_X4_labelsOnRings_b70 Q K23 x1 σ) : wp_X4_labelsOnRings_b70 Q' K23' x1 σ := by
  unfold wp_X4_labelsOnRings_b70 at h ⊢
  intro v6 ev6; replace h := h v6 ev6
  exact hK23 _ _ f0 h
set_option maxHeartbeats 1000000 in
theorem mf_X4_labelsOnRings_b121 {Q Q' : Int → St → Prop} {σ0 : St} (hq : ∀ (r : Int) (σ1 : St), Q r σ1 → Fr S_X4_labelsOnRings σ0 σ1 → Q' r σ1) {K78 K78' : Int → St → Prop} (hK78 : ∀ (x1 : Int) (σ : St), Fr S_X4_labelsOnRings σ0 σ → K78 x1 σ → K78' x1 σ) {K86 K86' : Int → Int → St → Prop} (hK86 : ∀ (x1 : Int) (x2 : Int) (σ : St), Fr S_X4_labelsOnRings σ0 σ → K86 x1 x2 σ → K86' x1 x2 σ) {x1 x2 : Int} {σ : St} (f0 : Fr S_X4_labelsOnRings σ0 σ) (h : wp_X4_labelsOnRings_b121 Q K78 K86 x1 x2 σ) : wp_X4_labelsOnRings_b121 Q' K78' K86' x1 x2 σ := by
  unfold wp_X4_labelsOnRings_b121 at h ⊢
  intro v11 ev11; replace h := h v11 ev11
  exact hK86 _ _ _ f0 h
set_option maxHeartbeats 1000000 in
theorem mf_X4_labelsOnRings_l86 {Q Q' : Int → St → Prop} {σ0 : St} (hq : ∀ (r : Int) (σ1 : St), Q r σ1 → Fr S_X4_labelsOnRings σ0 σ1 → Q' r σ1) {K78 K78' : Int → St → Prop} (hK78 : ∀ (x1 : Int) (σ : St), Fr S_X4_labelsOnRings σ0 σ → K78 x1 σ → K78' x1 σ) : ∀ (n : Nat) (x1 : Int) (x2 : Int) (σ : St), Fr S_X4_labelsOnRings σ0 σ → wp_X4_labelsOnRings_l86 Q K78 n x1 x2 σ → wp_X4_labelsOnRings_l86 Q' K78' n x1 x2 σ := by
  intro n
  induction n with
  | zero => intro _ _ _ _ h; exact h.elim
  | succ n ih =>
    intro x1 x2 σ f0 h
    unfold wp_X4_labelsOnRings_l86 at h ⊢
    refine ⟨fun hc => ?_, fun hc => ?_⟩
    · replace h := h.1 hc
      intro v9 ev9; replace h := h v9 ev9
      exact hK78 _ _ f0 h
    · replace h := h.2 hc
      refine ⟨h.1, ?_⟩; replace h := h.2
      refine ⟨fun hc => ?_, fun hc => ?_⟩
      · replace h := h.1 hc
        exact mf_X4_labelsOnRings_b121 hq hK78 ih f0 h
      · replace h := h.2 hc
        refine ⟨h.1, ?_⟩; replace h := h.2
        refine ⟨h.1, ?_⟩; replace h := h.2
        refine ⟨h.1, fun σ10 eσ10 => ?_⟩; replace h := h.2 σ10 eσ10; have fσ10 : Fr S_X4_labelsOnRings σ0 σ10 := by rw [eσ10]; exact f0.up rfl
        exact mf_X4_labelsOnRings_b121 hq hK78 ih fσ10 h
set_option maxHeartbeats 1000000 in
theorem mf_X4_labelsOnRings_l137 {Q Q' : Int → St → Prop} {σ0 : St} (hq : ∀ (r : Int) (σ1 : St), Q r σ1 → Fr S_X4_labelsOnRings σ0 σ1 → Q' r σ1) : ∀ (n : Nat) (x1 : Int) (x2 : Int) (σ : St), Fr S_X4_labelsOnRings σ0 σ → wp_X4_labelsOnRings_l137 Q n x1 x2 σ → wp_X4_labelsOnRings_l137 Q' n x1 x2 σ := by
  intro n
  induction n with
  | zero => intro _ _ _ _ h; exact h.elim
  | succ n ih =>
    intro x1 x2 σ f0 h
    unfold wp_X4_labelsOnRings_l137 at h ⊢
    refine ⟨fun hc => ?_, fun hc => ?_⟩
    · replace h := h.1 hc
      exact hq _ _ h f0
    · replace h := h.2 hc
      refine ⟨h.1, ?_⟩; replace h := h.2
      intro v7 ev7; replace h := h v7 ev7
      intro v8 ev8; replace h := h v8 ev8
      exact ih _ _ _ f0 h
set_option maxHeartbeats 1000000 in
theorem mf_X4_labelsOnRings_l78 {Q Q' : Int → St → Prop} {σ0 : St} (hq : ∀ (r : Int) (σ1 : St), Q r σ1 → Fr S_X4_labelsOnRings σ0 σ1 → Q' r σ1) : ∀ (n : Nat) (x1 : Int) (σ : St), Fr S_X4_labelsOnRings σ0 σ → wp_X4_labelsOnRings_l78 Q n x1 σ → wp_X4_labelsOnRings_l78 Q' n x1 σ := by
  intro n
  induction n with
  | zero => intro _ _ _ h; exact h.elim
  | succ n ih =>
    intro x1 σ f0 h
    unfold wp_X4_labelsOnRings_l78 at h ⊢
    refine ⟨fun hc => ?_, fun hc => ?_⟩
    · replace h := h.1 hc
      exact mf_X4_labelsOnRings_l137 hq bigN _ _ _ f0 h
    · replace h := h.2 hc
      exact mf_X4_labelsOnRings_l86 hq ih bigN _ _ _ f0 h
set_option maxHeartbeats 1000000 in
theorem mf_X4_labelsOnRings_l23 {Q Q' : Int → St → Prop} {σ0 : St} (hq : ∀ (r : Int) (σ1 : St), Q r σ1 → Fr S_X4_labelsOnRings σ0 σ1 → Q' r σ1) : ∀ (n : Nat) (x1 : Int) (σ : St), Fr S_X4_labelsOnRings σ0 σ → wp_X4_labelsOnRings_l23 Q n x1 σ → wp_X4_labelsOnRings_l23 Q' n x1 σ := by
  intro n
  induction n with
  | zero => intro _ _ _ h; exact h.elim
  | succ n ih =>
    intro x1 σ f0 h
    unfold wp_X4_labelsOnRings_l23 at h ⊢
    refine ⟨fun hc => ?_, fun hc => ?_⟩
    · replace h := h.1 hc
      exact mf_X4_labelsOnRings_l78 hq bigN _ _ f0 h
    · replace h := h.2 hc
      refine ⟨h.1, ?_⟩; replace h := h.2
      refine ⟨fun hc => ?_, fun hc => ?_⟩
      · replace h := h.1 hc
        exact mf_X4_labelsOnRings_b70 hq ih f0 h
      · replace h := h.2 hc
        refine mf_X4_isUnary (fun r3 σ4 h gσ4 => ?_) Fr.rf h
        have fσ4 : Fr S_X4_labelsOnRings σ0 σ4 := f0.tr gσ4 (mkS_sub (by decide) (by decide))
        refine ⟨fun hc => ?_, fun hc => ?_⟩
        · replace h := h.1 hc
          exact mf_X4_labelsOnRings_b70 hq ih fσ4 h
        · replace h := h.2 hc
          refine ⟨h.1, ?_⟩; replace h := h.2
          refine ⟨h.1, ?_⟩; replace h := h.2
          refine ⟨h.1, ?_⟩; replace h := h.2
          refine ⟨h.1, fun σ5 eσ5 => ?_⟩; replace h := h.2 σ5 eσ5; have fσ5 : Fr S_X4_labelsOnRings σ0 σ5 := by rw [eσ5]; exact fσ4.up rfl
          exact mf_X4_labelsOnRings_b70 hq ih fσ5 h
set_option maxHeartbeats 1000000 in
theorem mf_X4_labelsOnRings_l2 {Q Q' : Int → St → Prop} {σ0 : St} (hq : ∀ (r : Int) (σ1 : St), Q r σ1 → Fr S_X4_labelsOnRings σ0 σ1 → Q' r σ1) : ∀ (n : Nat) (x1 : Int) (σ : St), Fr S_X4_labelsOnRings σ0 σ → wp_X4_labelsOnRings_l2 Q n x1 σ → wp_X4_labelsOnRings_l2 Q' n x1 σ := by
  intro n
  induction n with
  | zero => intro _ _ _ h; exact h.elim
  | succ n ih =>
    intro x1 σ f0 h
    unfold wp_X4_labelsOnRings_l2 at h ⊢
    refine ⟨fun hc => ?_, fun hc => ?_⟩
    · replace h := h.1 hc
      exact mf_X4_labelsOnRings_l23 hq bigN _ _ f0 h
    · replace h := h.2 hc
      refine ⟨h.1, fun σ1 eσ1 => ?_⟩; replace h := h.2 σ1 eσ1; have fσ1 : Fr S_X4_labelsOnRings σ0 σ1 := by rw [eσ1]; exact f0.up rfl
      intro v2 ev2; replace h := h v2 ev2
      exact ih _ _ fσ1 h
set_option maxHeartbeats 1000000 in
theorem mf_X4_labelsOnRings {Q Q' : Int → St → Prop} {σ0 : St} (hq : ∀ (r : Int) (σ1 : St), Q r σ1 → Fr S_X4_labelsOnRings σ0 σ1 → Q' r σ1) {σ : St} (f0 : Fr S_X4_labelsOnRings σ0 σ) (h : wp_X4_labelsOnRings  σ Q) : wp_X4_labelsOnRings  σ Q' := by
  unfold wp_X4_labelsOnRings at h ⊢
  exact mf_X4_labelsOnRings_l2 hq bigN _ _ f0 h
set_option maxHeartbeats 1000000 in
theorem mf_X11_rings {Q Q' : Int → St → Prop} {σ0 : St} (hq : ∀ (r : Int) (σ1 : St), Q r σ1 → Fr S_X11_rings σ0 σ1 → Q' r σ1) {σ : St} (f0 : Fr S_X11_rings σ0 σ) (h : wp_X11_rings  σ Q) : wp_X11_rings  σ Q' := by
  unfold wp_X11_rings at h ⊢
  refine mf_X4_labelsOnRings (fun r1 σ2 h gσ2 => ?_) Fr.rf h
  have fσ2 : Fr S_X11_rings σ0 σ2 := f0.tr gσ2 (mkS_sub (by decide) (by decide))
  exact hq _ _ h fσ2
set_option maxHeartbeats 1000000 in
theorem mf_X4_labelBit_b16 {Q Q' : Int → St → Prop} {σ0 : St} (hq : ∀ (r : Int) (σ1 : St), Q r σ1 → Fr S_X4_labelBit σ0 σ1 → Q' r σ1) {σ : St} (f0 : Fr S_X4_labelBit σ0 σ) (h : wp_X4_labelBit_b16 Q  σ) : wp_X4_labelBit_b16 Q'  σ := by
  unfold wp_X4_labelBit_b16 at h ⊢
  exact hq _ _ h f0
set_option maxHeartbeats 1000000 in
theorem mf_X4_labelBit {Q Q' : Int → St → Prop} {σ0 : St} (hq : ∀ (r : Int) (σ1 : St), Q r σ1 → Fr S_X4_labelBit σ0 σ1 → Q' r σ1) {x0 : Int} {σ : St} (f0 : Fr S_X4_labelBit σ0 σ) (h : wp_X4_labelBit x0 σ Q) : wp_X4_labelBit x0 σ Q' := by
  unfold wp_X4_labelBit at h ⊢
  refine ⟨fun hc => ?_, fun hc => ?_⟩
  · replace h := h.1 hc
    exact mf_X4_labelBit_b16 hq f0 h
  · replace h := h.2 hc
    refine ⟨fun hc => ?_, fun hc => ?_⟩
    · replace h := h.1 hc
      exact mf_X4_labelBit_b16 hq f0 h
    · replace h := h.2 hc
      exact hq _ _ h f0
set_option maxHeartbeats 1000000 in
theorem mf_X4_partsWithin {Q Q' : Int → St → Prop} {σ0 : St} (hq : ∀ (r : Int) (σ1 : St), Q r σ1 → Fr S_X4_partsWithin σ0 σ1 → Q' r σ1) {x1 x2 : Int} {σ : St} (f0 : Fr S_X4_partsWithin σ0 σ) (h : wp_X4_partsWithin x1 x2 σ Q) : wp_X4_partsWithin x1 x2 σ Q' := by
  unfold wp_X4_partsWithin at h ⊢
  refine ⟨h.1, ?_⟩; replace h := h.2
  refine mf_X4_labelBit (fun r1 σ2 h gσ2 => ?_) Fr.rf h
  have fσ2 : Fr S_X4_partsWithin σ0 σ2 := f0.tr gσ2 (mkS_sub (by decide) (by decide))
  refine ⟨h.1, ?_⟩; replace h := h.2
  refine mf_X4_labelBit (fun r3 σ4 h gσ4 => ?_) Fr.rf h
  have fσ4 : Fr S_X4_partsWithin σ0 σ4 := fσ2.tr gσ4 (mkS_sub (by decide) (by decide))
  intro v5 ev5; replace h := h v5 ev5
  refine ⟨fun hc => ?_, fun hc => ?_⟩
  · replace h := h.1 hc
    exact hq _ _ h fσ4
  · replace h := h.2 hc
    exact hq _ _ h fσ4
set_option maxHeartbeats 1000000 in
theorem mf_X4_fruitfulLabels_b49 {Q Q' : Int → St → Prop} {σ0 : St} (hq : ∀ (r : Int) (σ1 : St), Q r σ1 → Fr S_X4_fruitfulLabels σ0 σ1 → Q' r σ1) {K4 K4' : Int → Int → St → Prop} (hK4 : ∀ (x1 : Int) (x2 : Int) (σ : St), Fr S_X4_fruitfulLabels σ0 σ → K4 x1 x2 σ → K4' x1 x2 σ) {K12 K12' : Int → Int → Int → St → Prop} (hK12 : ∀ (x1 : Int) (x2 : Int) (x3 : Int) (σ : St), Fr S_X4_fruitfulLabels σ0 σ → K12 x1 x2 x3 σ → K12' x1 x2 x3 σ) {x1 x2 x3 : Int} {σ : St} (f0 : Fr S_X4_fruitfulLabels σ0 σ) (h : wp_X4_fruitfulLabels_b49 Q K4 K12 x1 x2 x3 σ) : wp_X4_fruitfulLabels_b49 Q' K4' K12' x1 x2 x3 σ := by
  unfold wp_X4_fruitfulLabels_b49 at h ⊢
  intro v5 ev5; replace h := h v5 ev5
  exact hK12 _ _ _ _ f0 h
set_option maxHeartbeats 1000000 in
theorem mf_X4_fruitfulLabels_l12 {Q Q' : Int → St → Prop} {σ0 : St} (hq : ∀ (r : Int) (σ1 : St), Q r σ1 → Fr S_X4_fruitfulLabels σ0 σ1 → Q' r σ1) {K4 K4' : Int → Int → St → Prop} (hK4 : ∀ (x1 : Int) (x2 : Int) (σ : St), Fr S_X4_fruitfulLabels σ0 σ → K4 x1 x2 σ → K4' x1 x2 σ) : ∀ (n : Nat) (x1 : Int) (x2 : Int) (x3 : Int) (σ : St), Fr S_X4_fruitfulLabels σ0 σ → wp_X4_fruitfulLabels_l12 Q K4 n x1 x2 x3 σ → wp_X4_fruitfulLabels_l12 Q' K4' n x1 x2 x3 σ := by
  intro n
  induction n with
  | zero => intro _ _ _ _ _ h; exact h.elim
  | succ n ih =>
    intro x1 x2 x3 σ f0 h
    unfold wp_X4_fruitfulLabels_l12 at h ⊢
    refine ⟨fun hc => ?_, fun hc => ?_⟩
    · replace h := h.1 hc
      intro v1 ev1; replace h := h v1 ev1
      exact hK4 _ _ _ f0 h
    · replace h := h.2 hc
      refine ⟨h.1, ?_⟩; replace h := h.2
      refine ⟨fun hc => ?_, fun hc => ?_⟩
      · replace h := h.1 hc
        exact mf_X4_fruitfulLabels_b49 hq hK4 ih f0 h
      · replace h := h.2 hc
        refine mf_X4_partsWithin (fun r2 σ3 h gσ3 => ?_) Fr.rf h
        have fσ3 : Fr S_X4_fruitfulLabels σ0 σ3 := f0.tr gσ3 (mkS_sub (by decide) (by decide))
        refine ⟨fun hc => ?_, fun hc => ?_⟩
        · replace h := h.1 hc
          exact mf_X4_fruitfulLabels_b49 hq hK4 ih fσ3 h
        · replace h := h.2 hc
          refine ⟨h.1, ?_⟩; replace h := h.2
          intro v4 ev4; replace h := h v4 ev4
          exact mf_X4_fruitfulLabels_b49 hq hK4 ih fσ3 h
set_option maxHeartbeats 1000000 in
theorem mf_X4_fruitfulLabels_l4 {Q Q' : Int → St → Prop} {σ0 : St} (hq : ∀ (r : Int) (σ1 : St), Q r σ1 → Fr S_X4_fruitfulLabels σ0 σ1 → Q' r σ1) : ∀ (n : Nat) (x1 : Int) (x2 : Int) (σ : St), Fr S_X4_fruitfulLabels σ0 σ → wp_X4_fruitfulLabels_l4 Q n x1 x2 σ → wp_X4_fruitfulLabels_l4 Q' n x1 x2 σ := by
  intro n
  induction n with
  | zero => intro _ _ _ _ h; exact h.elim
  | succ n ih =>
    intro x1 x2 σ f0 h
    unfold wp_X4_fruitfulLabels_l4 at h ⊢
    refine ⟨fun hc => ?_, fun hc => ?_⟩
    · replace h := h.1 hc
      exact hq _ _ h f0
    · replace h := h.2 hc
      exact mf_X4_fruitfulLabels_l12 hq ih bigN _ _ _ _ f0 h
set_option maxHeartbeats 1000000 in
theorem mf_X4_fruitfulLabels {Q Q' : Int → St → Prop} {σ0 : St} (hq : ∀ (r : Int) (σ1 : St), Q r σ1 → Fr S_X4_fruitfulLabels σ0 σ1 → Q' r σ1) {σ : St} (f0 : Fr S_X4_fruitfulLabels σ0 σ) (h : wp_X4_fruitfulLabels  σ Q) : wp_X4_fruitfulLabels  σ Q' := by
  unfold wp_X4_fruitfulLabels at h ⊢
  exact mf_X4_fruitfulLabels_l4 hq bigN _ _ _ f0 h
set_option maxHeartbeats 1000000 in
theorem mf_X4_rulesAlive_b111 {Q Q' : Int → St → Prop} {σ0 : St} (hq : ∀ (r : Int) (σ1 : St), Q r σ1 → Fr S_X4_rulesAlive σ0 σ1 → Q' r σ1) {K26 K26' : Int → Int → Int → Int → St → Prop} (hK26 : ∀ (x1 : Int) (x2 : Int) (x3 : Int) (x5 : Int) (σ : St), Fr S_X4_rulesAlive σ0 σ → K26 x1 x2 x3 x5 σ → K26' x1 x2 x3 x5 σ) {K36 K36' : Int → Int → Int → Int → Int → St → Prop} (hK36 : ∀ (x1 : Int) (x2 : Int) (x3 : Int) (x5 : Int) (x6 : Int) (σ : St), Fr S_X4_rulesAlive σ0 σ → K36 x1 x2 x3 x5 x6 σ → K36' x1 x2 x3 x5 x6 σ) {x1 x2 x3 x5 x6 : Int} {σ : St} (f0 : Fr S_X4_rulesAlive σ0 σ) (h : wp_X4_rulesAlive_b111 Q K26 K36 x1 x2 x3 x5 x6 σ) : wp_X4_rulesAlive_b111 Q' K26' K36' x1 x2 x3 x5 x6 σ := by
  unfold wp_X4_rulesAlive_b111 at h ⊢
  intro v15 ev15; replace h := h v15 ev15
  exact hK36 _ _ _ _ _ _ f0 h
set_option maxHeartbeats 1000000 in
theorem mf_X4_rulesAlive_l36 {Q Q' : Int → St → Prop} {σ0 : St} (hq : ∀ (r : Int) (σ1 : St), Q r σ1 → Fr S_X4_rulesAlive σ0 σ1 → Q' r σ1) {K26 K26' : Int → Int → Int → Int → St → Prop} (hK26 : ∀ (x1 : Int) (x2 : Int) (x3 : Int) (x5 : Int) (σ : St), Fr S_X4_rulesAlive σ0 σ → K26 x1 x2 x3 x5 σ → K26' x1 x2 x3 x5 σ) : ∀ (n : Nat) (x1 : Int) (x2 : Int) (x3 : Int) (x5 : Int) (x6 : Int) (σ : St), Fr S_X4_rulesAlive σ0 σ → wp_X4_rulesAlive_l36 Q K26 n x1 x2 x3 x5 x6 σ → wp_X4_rulesAlive_l36 Q' K26' n x1 x2 x3 x5 x6 σ := by
  intro n
  induction n with
  | zero => intro _ _ _ _ _ _ _ h; exact h.elim
  | succ n ih =>
    intro x1 x2 x3 x5 x6 σ f0 h
    unfold wp_X4_rulesAlive_l36 at h ⊢
    refine ⟨fun hc => ?_, fun hc => ?_⟩
    · replace h := h.1 hc
      intro v6 ev6; replace h := h v6 ev6
      exact hK26 _ _ _ _ _ f0 h
    · replace h := h.2 hc
      refine ⟨h.1, ?_⟩; replace h := h.2
      refine ⟨fun hc => ?_, fun hc => ?_⟩
      · replace h := h.1 hc
        exact mf_X4_rulesAlive_b111 hq hK26 ih f0 h
      · replace h := h.2 hc
        refine ⟨h.1, ?_⟩; replace h := h.2
        refine ⟨fun hc => ?_, fun hc => ?_⟩
        · replace h := h.1 hc
          exact mf_X4_rulesAlive_b111 hq hK26 ih f0 h
        · replace h := h.2 hc
          refine mf_X4_partsWithin (fun r7 σ8 h gσ8 => ?_) Fr.rf h
          have fσ8 : Fr S_X4_rulesAlive σ0 σ8 := f0.tr gσ8 (mkS_sub (by decide) (by decide))
          refine ⟨fun hc => ?_, fun hc => ?_⟩
          · replace h := h.1 hc
            exact mf_X4_rulesAlive_b111 hq hK26 ih fσ8 h
          · replace h := h.2 hc
            intro v9 ev9; replace h := h v9 ev9
            refine ⟨h.1, ?_⟩; replace h := h.2
            refine mf_X4_labelBit (fun r10 σ11 h gσ11 => ?_) Fr.rf h
            have fσ11 : Fr S_X4_rulesAlive σ0 σ11 := fσ8.tr gσ11 (mkS_sub (by decide) (by decide))
            refine ⟨h.1, ?_⟩; replace h := h.2
            refine mf_X4_labelBit (fun r12 σ13 h gσ13 => ?_) Fr.rf h
            have fσ13 : Fr S_X4_rulesAlive σ0 σ13 := fσ11.tr gσ13 (mkS_sub (by decide) (by decide))
            intro v14 ev14; replace h := h v14 ev14
            exact mf_X4_rulesAlive_b111 hq hK26 ih fσ13 h
set_option maxHeartbeats 1000000 in
theorem mf_X4_rulesAlive_l26 {Q Q' : Int → St → Prop} {σ0 : St} (hq : ∀ (r : Int) (σ1 : St), Q r σ1 → Fr S_X4_rulesAlive σ0 σ1 → Q' r σ1) : ∀ (n : Nat) (x1 : Int) (x2 : Int) (x3 : Int) (x5 : Int) (σ : St), Fr S_X4_rulesAlive σ0 σ → wp_X4_rulesAlive_l26 Q n x1 x2 x3 x5 σ → wp_X4_rulesAlive_l26 Q' n x1 x2 x3 x5 σ := by
  intro n
  induction n with
  | zero => intro _ _ _ _ _ _ h; exact h.elim
  | succ n ih =>
    intro x1 x2 x3 x5 σ f0 h
    unfold wp_X4_rulesAlive_l26 at h ⊢
    refine ⟨fun hc => ?_, fun hc => ?_⟩
    · replace h := h.1 hc
      exact hq _ _ h f0
    · replace h := h.2 hc
      exact mf_X4_rulesAlive_l36 hq ih bigN _ _ _ _ _ _ f0 h
set_option maxHeartbeats 1000000 in
theorem mf_X4_rulesAlive {Q Q' : Int → St → Prop} {σ0 : St} (hq : ∀ (r : Int) (σ1 : St), Q r σ1 → Fr S_X4_rulesAlive σ0 σ1 → Q' r σ1) {σ : St} (f0 : Fr S_X4_rulesAlive σ0 σ) (h : wp_X4_rulesAlive  σ Q) : wp_X4_rulesAlive  σ Q' := by
  unfold wp_X4_rulesAlive at h ⊢
  refine ⟨fun hc => ?_, fun hc => ?_⟩
  · replace h := h.1 hc
    refine mf_X4_fruitfulLabels (fun r1 σ2 h gσ2 => ?_) Fr.rf h
    have fσ2 : Fr S_X4_rulesAlive σ0 σ2 := f0.tr gσ2 (mkS_sub (by decide) (by decide))
    refine mf_X4_start (fun r3 σ4 h gσ4 => ?_) Fr.rf h
    have fσ4 : Fr S_X4_rulesAlive σ0 σ4 := fσ2.tr gσ4 (mkS_sub (by decide) (by decide))
    intro v5 ev5; replace h := h v5 ev5
    exact mf_X4_rulesAlive_l26 hq bigN _ _ _ _ _ fσ4 h
  · replace h := h.2 hc
    exact hq _ _ h f0
set_option maxHeartbeats 1000000 in
theorem mf_X11_alive {Q Q' : Int → St → Prop} {σ0 : St} (hq : ∀ (r : Int) (σ1 : St), Q r σ1 → Fr S_X11_alive σ0 σ1 → Q' r σ1) {σ : St} (f0 : Fr S_X11_alive σ0 σ) (h : wp_X11_alive  σ Q) : wp_X11_alive  σ Q' := by
  unfold wp_X11_alive at h ⊢
  refine mf_X4_rulesAlive (fun r1 σ2 h gσ2 => ?_) Fr.rf h
  have fσ2 : Fr S_X11_alive σ0 σ2 := f0.tr gσ2 (mkS_sub (by decide) (by decide))
  exact hq _ _ h fσ2
