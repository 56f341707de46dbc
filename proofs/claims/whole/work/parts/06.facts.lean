def tbC : List Shp := [(4, 11, [(2, 1), (0, 0), (2, 2), (0, 0), (2, 3), (2, 14), (2, 24), (2, 36), (2, 41), (2, 45), (2, 50), (2, 54), (2, 68), (2, 72), (2, 76), (2, 80)]),
 (0, 1000, []),
 (0, 2048, []),
 (4, 6, [(2, 1), (2, 4), (0, 0), (0, 0), (0, 0), (0, 0), (0, 0), (0, 0), (0, 0)]),
 (4, 4, [(0, 0), (2, 5), (2, 6), (2, 7), (2, 8), (2, 9), (2, 10), (0, 0), (0, 0), (0, 0), (2, 11), (2, 12), (2, 13)]),
 (0, 40, []),
 (0, 40, []),
 (0, 40, []),
 (0, 40, []),
 (0, 40, []),
 (3, 40, []),
 (0, 25, []),
 (0, 25, []),
 (0, 12, []),
 (4, 4, [(0, 0), (2, 15), (2, 16), (2, 17), (2, 18), (2, 19), (2, 20), (0, 0), (0, 0), (0, 0), (2, 21), (2, 22), (2, 23)]),
 (0, 40, []),
 (0, 40, []),
 (0, 40, []),
 (0, 40, []),
 (0, 40, []),
 (3, 40, []),
 (0, 25, []),
 (0, 25, []),
 (0, 12, []),
 (4, 0, [(2, 14), (2, 25), (0, 0), (0, 0), (2, 26), (2, 27), (2, 28), (2, 29), (2, 30), (2, 31), (2, 32), (2, 33), (0, 0), (2, 34), (0, 0), (2, 35), (0, 0), (0, 0)]),
 (0, 8, []),
 (0, 36, []),
 (0, 36, []),
 (0, 81, []),
 (0, 3360, []),
 (0, 3360, []),
 (0, 3360, []),
 (0, 3360, []),
 (0, 40, []),
 (0, 40, []),
 (0, 433, []),
 (4, 1, [(2, 14), (2, 24), (2, 37), (2, 38), (2, 39), (2, 40), (0, 0), (0, 0), (0, 0), (0, 0)]),
 (0, 432, []),
 (0, 432, []),
 (0, 432, []),
 (0, 432, []),
 (4, 2, [(2, 14), (2, 24), (2, 36), (2, 42), (2, 43), (2, 44), (0, 0), (0, 0), (0, 0)]),
 (1, 432, []),
 (1, 432, []),
 (1, 432, []),
 (4, 7, [(2, 14), (2, 24), (2, 36), (2, 46), (2, 47), (2, 48), (2, 49), (0, 0)]),
 (0, 432, []),
 (3, 36, []),
 (0, 156, []),
 (0, 12, []),
 (4, 9, [(2, 14), (2, 24), (2, 51), (2, 52), (2, 53), (0, 0), (0, 0)]),
 (0, 432, []),
 (0, 432, []),
 (3, 5, []),
 (4, 3, [(2, 14), (2, 24), (2, 36), (2, 55), (2, 56), (2, 57), (2, 58), (2, 59), (2, 60), (2, 61), (2, 62), (2, 63), (2, 64), (2, 65), (2, 66), (2, 67), (0, 0), (0, 0)]),
 (0, 6912, []),
 (0, 6912, []),
 (0, 6912, []),
 (0, 6912, []),
 (0, 432, []),
 (3, 36, []),
 (0, 192, []),
 (0, 192, []),
 (0, 192, []),
 (0, 12, []),
 (0, 12, []),
 (0, 40, []),
 (0, 40, []),
 (4, 10, [(2, 14), (2, 24), (2, 54), (2, 69), (2, 70), (2, 71), (0, 0), (0, 0), (0, 0), (0, 0)]),
 (0, 2560, []),
 (0, 2560, []),
 (0, 512, []),
 (4, 10, [(2, 14), (2, 24), (2, 54), (2, 73), (2, 74), (2, 75), (0, 0), (0, 0), (0, 0), (0, 0)]),
 (0, 2560, []),
 (0, 2560, []),
 (0, 512, []),
 (4, 8, [(2, 14), (2, 24), (2, 36), (2, 77), (2, 78), (2, 79), (3, 0)]),
 (0, 36, []),
 (0, 432, []),
 (1, 432, []),
 (4, 5, [(2, 14), (2, 24), (2, 36), (2, 81), (2, 82), (0, 0), (0, 0), (0, 0), (0, 0), (0, 0)]),
 (0, 432, []),
 (0, 208, []),
 (1, 130032, [])]
def shC (b : Bool) (k : Nat) : Shp := if k = 76 then (if b then (4, 8, [(2, 14), (2, 24), (2, 36), (2, 77), (2, 78), (2, 79), (2, 83)]) else (4, 8, [(2, 14), (2, 24), (2, 36), (2, 77), (2, 78), (2, 79), (3, 0)])) else tbC.getD k (9, 0, [])
def NC (b : Bool) : Nat := if b then 84 else 83
theorem nC (b : Bool) {k : Nat} (h : k < 83) : k < NC b := by cases b <;> simp only [NC] <;> simp <;> omega
theorem kC_0 (b : Bool) : 0 < NC b := nC b (by decide)
theorem sC_0 (b : Bool) : shC b 0 = (4, 11, [(2, 1), (0, 0), (2, 2), (0, 0), (2, 3), (2, 14), (2, 24), (2, 36), (2, 41), (2, 45), (2, 50), (2, 54), (2, 68), (2, 72), (2, 76), (2, 80)]) := rfl
theorem fC_0_1 {b : Bool} {σ : St} (h : CanS (shC b) (NC b) σ) : C32 (σ 0 1) := h.f32 (kC_0 b) (sC_0 b) rfl
theorem uC_0_1 {b : Bool} {σ : St} {v : Int} (h : CanS (shC b) (NC b) σ) (hv : C32 v) : CanS (shC b) (NC b) (upS σ 0 1 v) := h.uf (kC_0 b) (sC_0 b) rfl hv
theorem fC_0_3 {b : Bool} {σ : St} (h : CanS (shC b) (NC b) σ) : C32 (σ 0 3) := h.f32 (kC_0 b) (sC_0 b) rfl
theorem uC_0_3 {b : Bool} {σ : St} {v : Int} (h : CanS (shC b) (NC b) σ) (hv : C32 v) : CanS (shC b) (NC b) (upS σ 0 3 v) := h.uf (kC_0 b) (sC_0 b) rfl hv
theorem kC_1 (b : Bool) : 1 < NC b := nC b (by decide)
theorem sC_1 (b : Bool) : shC b 1 = (0, 1000, []) := rfl
theorem aC_1 {b : Bool} {σ : St} (h : CanS (shC b) (NC b) σ) (j : Nat) : C32 (σ 1 j) := h.i32 0 (kC_1 b) (sC_1 b) (by decide) j
theorem wC_1 {b : Bool} {σ : St} {j : Nat} {v : Int} (h : CanS (shC b) (NC b) σ) (hv : C32 v) : CanS (shC b) (NC b) (upS σ 1 j v) := h.u32 0 (kC_1 b) (sC_1 b) (by decide) hv
theorem kC_2 (b : Bool) : 2 < NC b := nC b (by decide)
theorem sC_2 (b : Bool) : shC b 2 = (0, 2048, []) := rfl
theorem aC_2 {b : Bool} {σ : St} (h : CanS (shC b) (NC b) σ) (j : Nat) : C32 (σ 2 j) := h.i32 0 (kC_2 b) (sC_2 b) (by decide) j
theorem wC_2 {b : Bool} {σ : St} {j : Nat} {v : Int} (h : CanS (shC b) (NC b) σ) (hv : C32 v) : CanS (shC b) (NC b) (upS σ 2 j v) := h.u32 0 (kC_2 b) (sC_2 b) (by decide) hv
theorem kC_3 (b : Bool) : 3 < NC b := nC b (by decide)
theorem sC_3 (b : Bool) : shC b 3 = (4, 6, [(2, 1), (2, 4), (0, 0), (0, 0), (0, 0), (0, 0), (0, 0), (0, 0), (0, 0)]) := rfl
theorem fC_3_2 {b : Bool} {σ : St} (h : CanS (shC b) (NC b) σ) : C32 (σ 3 2) := h.f32 (kC_3 b) (sC_3 b) rfl
theorem uC_3_2 {b : Bool} {σ : St} {v : Int} (h : CanS (shC b) (NC b) σ) (hv : C32 v) : CanS (shC b) (NC b) (upS σ 3 2 v) := h.uf (kC_3 b) (sC_3 b) rfl hv
theorem fC_3_3 {b : Bool} {σ : St} (h : CanS (shC b) (NC b) σ) : C32 (σ 3 3) := h.f32 (kC_3 b) (sC_3 b) rfl
theorem uC_3_3 {b : Bool} {σ : St} {v : Int} (h : CanS (shC b) (NC b) σ) (hv : C32 v) : CanS (shC b) (NC b) (upS σ 3 3 v) := h.uf (kC_3 b) (sC_3 b) rfl hv
theorem fC_3_4 {b : Bool} {σ : St} (h : CanS (shC b) (NC b) σ) : C32 (σ 3 4) := h.f32 (kC_3 b) (sC_3 b) rfl
theorem uC_3_4 {b : Bool} {σ : St} {v : Int} (h : CanS (shC b) (NC b) σ) (hv : C32 v) : CanS (shC b) (NC b) (upS σ 3 4 v) := h.uf (kC_3 b) (sC_3 b) rfl hv
theorem fC_3_5 {b : Bool} {σ : St} (h : CanS (shC b) (NC b) σ) : C32 (σ 3 5) := h.f32 (kC_3 b) (sC_3 b) rfl
theorem uC_3_5 {b : Bool} {σ : St} {v : Int} (h : CanS (shC b) (NC b) σ) (hv : C32 v) : CanS (shC b) (NC b) (upS σ 3 5 v) := h.uf (kC_3 b) (sC_3 b) rfl hv
theorem fC_3_6 {b : Bool} {σ : St} (h : CanS (shC b) (NC b) σ) : C32 (σ 3 6) := h.f32 (kC_3 b) (sC_3 b) rfl
theorem uC_3_6 {b : Bool} {σ : St} {v : Int} (h : CanS (shC b) (NC b) σ) (hv : C32 v) : CanS (shC b) (NC b) (upS σ 3 6 v) := h.uf (kC_3 b) (sC_3 b) rfl hv
theorem fC_3_7 {b : Bool} {σ : St} (h : CanS (shC b) (NC b) σ) : C32 (σ 3 7) := h.f32 (kC_3 b) (sC_3 b) rfl
theorem uC_3_7 {b : Bool} {σ : St} {v : Int} (h : CanS (shC b) (NC b) σ) (hv : C32 v) : CanS (shC b) (NC b) (upS σ 3 7 v) := h.uf (kC_3 b) (sC_3 b) rfl hv
theorem fC_3_8 {b : Bool} {σ : St} (h : CanS (shC b) (NC b) σ) : C32 (σ 3 8) := h.f32 (kC_3 b) (sC_3 b) rfl
theorem uC_3_8 {b : Bool} {σ : St} {v : Int} (h : CanS (shC b) (NC b) σ) (hv : C32 v) : CanS (shC b) (NC b) (upS σ 3 8 v) := h.uf (kC_3 b) (sC_3 b) rfl hv
theorem kC_4 (b : Bool) : 4 < NC b := nC b (by decide)
theorem sC_4 (b : Bool) : shC b 4 = (4, 4, [(0, 0), (2, 5), (2, 6), (2, 7), (2, 8), (2, 9), (2, 10), (0, 0), (0, 0), (0, 0), (2, 11), (2, 12), (2, 13)]) := rfl
theorem fC_4_0 {b : Bool} {σ : St} (h : CanS (shC b) (NC b) σ) : C32 (σ 4 0) := h.f32 (kC_4 b) (sC_4 b) rfl
theorem uC_4_0 {b : Bool} {σ : St} {v : Int} (h : CanS (shC b) (NC b) σ) (hv : C32 v) : CanS (shC b) (NC b) (upS σ 4 0 v) := h.uf (kC_4 b) (sC_4 b) rfl hv
theorem fC_4_7 {b : Bool} {σ : St} (h : CanS (shC b) (NC b) σ) : C32 (σ 4 7) := h.f32 (kC_4 b) (sC_4 b) rfl
theorem uC_4_7 {b : Bool} {σ : St} {v : Int} (h : CanS (shC b) (NC b) σ) (hv : C32 v) : CanS (shC b) (NC b) (upS σ 4 7 v) := h.uf (kC_4 b) (sC_4 b) rfl hv
theorem fC_4_8 {b : Bool} {σ : St} (h : CanS (shC b) (NC b) σ) : C32 (σ 4 8) := h.f32 (kC_4 b) (sC_4 b) rfl
theorem uC_4_8 {b : Bool} {σ : St} {v : Int} (h : CanS (shC b) (NC b) σ) (hv : C32 v) : CanS (shC b) (NC b) (upS σ 4 8 v) := h.uf (kC_4 b) (sC_4 b) rfl hv
theorem fC_4_9 {b : Bool} {σ : St} (h : CanS (shC b) (NC b) σ) : C32 (σ 4 9) := h.f32 (kC_4 b) (sC_4 b) rfl
theorem uC_4_9 {b : Bool} {σ : St} {v : Int} (h : CanS (shC b) (NC b) σ) (hv : C32 v) : CanS (shC b) (NC b) (upS σ 4 9 v) := h.uf (kC_4 b) (sC_4 b) rfl hv
theorem kC_5 (b : Bool) : 5 < NC b := nC b (by decide)
theorem sC_5 (b : Bool) : shC b 5 = (0, 40, []) := rfl
theorem aC_5 {b : Bool} {σ : St} (h : CanS (shC b) (NC b) σ) (j : Nat) : C32 (σ 5 j) := h.i32 0 (kC_5 b) (sC_5 b) (by decide) j
theorem wC_5 {b : Bool} {σ : St} {j : Nat} {v : Int} (h : CanS (shC b) (NC b) σ) (hv : C32 v) : CanS (shC b) (NC b) (upS σ 5 j v) := h.u32 0 (kC_5 b) (sC_5 b) (by decide) hv
theorem kC_6 (b : Bool) : 6 < NC b := nC b (by decide)
theorem sC_6 (b : Bool) : shC b 6 = (0, 40, []) := rfl
theorem aC_6 {b : Bool} {σ : St} (h : CanS (shC b) (NC b) σ) (j : Nat) : C32 (σ 6 j) := h.i32 0 (kC_6 b) (sC_6 b) (by decide) j
theorem wC_6 {b : Bool} {σ : St} {j : Nat} {v : Int} (h : CanS (shC b) (NC b) σ) (hv : C32 v) : CanS (shC b) (NC b) (upS σ 6 j v) := h.u32 0 (kC_6 b) (sC_6 b) (by decide) hv
theorem kC_7 (b : Bool) : 7 < NC b := nC b (by decide)
theorem sC_7 (b : Bool) : shC b 7 = (0, 40, []) := rfl
theorem aC_7 {b : Bool} {σ : St} (h : CanS (shC b) (NC b) σ) (j : Nat) : C32 (σ 7 j) := h.i32 0 (kC_7 b) (sC_7 b) (by decide) j
theorem wC_7 {b : Bool} {σ : St} {j : Nat} {v : Int} (h : CanS (shC b) (NC b) σ) (hv : C32 v) : CanS (shC b) (NC b) (upS σ 7 j v) := h.u32 0 (kC_7 b) (sC_7 b) (by decide) hv
theorem kC_8 (b : Bool) : 8 < NC b := nC b (by decide)
theorem sC_8 (b : Bool) : shC b 8 = (0, 40, []) := rfl
theorem aC_8 {b : Bool} {σ : St} (h : CanS (shC b) (NC b) σ) (j : Nat) : C32 (σ 8 j) := h.i32 0 (kC_8 b) (sC_8 b) (by decide) j
theorem wC_8 {b : Bool} {σ : St} {j : Nat} {v : Int} (h : CanS (shC b) (NC b) σ) (hv : C32 v) : CanS (shC b) (NC b) (upS σ 8 j v) := h.u32 0 (kC_8 b) (sC_8 b) (by decide) hv
theorem kC_9 (b : Bool) : 9 < NC b := nC b (by decide)
theorem sC_9 (b : Bool) : shC b 9 = (0, 40, []) := rfl
theorem aC_9 {b : Bool} {σ : St} (h : CanS (shC b) (NC b) σ) (j : Nat) : C32 (σ 9 j) := h.i32 0 (kC_9 b) (sC_9 b) (by decide) j
theorem wC_9 {b : Bool} {σ : St} {j : Nat} {v : Int} (h : CanS (shC b) (NC b) σ) (hv : C32 v) : CanS (shC b) (NC b) (upS σ 9 j v) := h.u32 0 (kC_9 b) (sC_9 b) (by decide) hv
theorem kC_10 (b : Bool) : 10 < NC b := nC b (by decide)
theorem sC_10 (b : Bool) : shC b 10 = (3, 40, []) := rfl
theorem aC_10 {b : Bool} {σ : St} (h : CanS (shC b) (NC b) σ) (j : Nat) : C32 (σ 10 j) := h.i32 3 (kC_10 b) (sC_10 b) (by decide) j
theorem wC_10 {b : Bool} {σ : St} {j : Nat} {v : Int} (h : CanS (shC b) (NC b) σ) (hv : C32 v) : CanS (shC b) (NC b) (upS σ 10 j v) := h.u32 3 (kC_10 b) (sC_10 b) (by decide) hv
theorem kC_11 (b : Bool) : 11 < NC b := nC b (by decide)
theorem sC_11 (b : Bool) : shC b 11 = (0, 25, []) := rfl
theorem aC_11 {b : Bool} {σ : St} (h : CanS (shC b) (NC b) σ) (j : Nat) : C32 (σ 11 j) := h.i32 0 (kC_11 b) (sC_11 b) (by decide) j
theorem wC_11 {b : Bool} {σ : St} {j : Nat} {v : Int} (h : CanS (shC b) (NC b) σ) (hv : C32 v) : CanS (shC b) (NC b) (upS σ 11 j v) := h.u32 0 (kC_11 b) (sC_11 b) (by decide) hv
theorem kC_12 (b : Bool) : 12 < NC b := nC b (by decide)
theorem sC_12 (b : Bool) : shC b 12 = (0, 25, []) := rfl
theorem aC_12 {b : Bool} {σ : St} (h : CanS (shC b) (NC b) σ) (j : Nat) : C32 (σ 12 j) := h.i32 0 (kC_12 b) (sC_12 b) (by decide) j
theorem wC_12 {b : Bool} {σ : St} {j : Nat} {v : Int} (h : CanS (shC b) (NC b) σ) (hv : C32 v) : CanS (shC b) (NC b) (upS σ 12 j v) := h.u32 0 (kC_12 b) (sC_12 b) (by decide) hv
theorem kC_13 (b : Bool) : 13 < NC b := nC b (by decide)
theorem sC_13 (b : Bool) : shC b 13 = (0, 12, []) := rfl
theorem aC_13 {b : Bool} {σ : St} (h : CanS (shC b) (NC b) σ) (j : Nat) : C32 (σ 13 j) := h.i32 0 (kC_13 b) (sC_13 b) (by decide) j
theorem wC_13 {b : Bool} {σ : St} {j : Nat} {v : Int} (h : CanS (shC b) (NC b) σ) (hv : C32 v) : CanS (shC b) (NC b) (upS σ 13 j v) := h.u32 0 (kC_13 b) (sC_13 b) (by decide) hv
theorem kC_14 (b : Bool) : 14 < NC b := nC b (by decide)
theorem sC_14 (b : Bool) : shC b 14 = (4, 4, [(0, 0), (2, 15), (2, 16), (2, 17), (2, 18), (2, 19), (2, 20), (0, 0), (0, 0), (0, 0), (2, 21), (2, 22), (2, 23)]) := rfl
theorem fC_14_0 {b : Bool} {σ : St} (h : CanS (shC b) (NC b) σ) : C32 (σ 14 0) := h.f32 (kC_14 b) (sC_14 b) rfl
theorem uC_14_0 {b : Bool} {σ : St} {v : Int} (h : CanS (shC b) (NC b) σ) (hv : C32 v) : CanS (shC b) (NC b) (upS σ 14 0 v) := h.uf (kC_14 b) (sC_14 b) rfl hv
theorem fC_14_7 {b : Bool} {σ : St} (h : CanS (shC b) (NC b) σ) : C32 (σ 14 7) := h.f32 (kC_14 b) (sC_14 b) rfl
theorem uC_14_7 {b : Bool} {σ : St} {v : Int} (h : CanS (shC b) (NC b) σ) (hv : C32 v) : CanS (shC b) (NC b) (upS σ 14 7 v) := h.uf (kC_14 b) (sC_14 b) rfl hv
theorem fC_14_8 {b : Bool} {σ : St} (h : CanS (shC b) (NC b) σ) : C32 (σ 14 8) := h.f32 (kC_14 b) (sC_14 b) rfl
theorem uC_14_8 {b : Bool} {σ : St} {v : Int} (h : CanS (shC b) (NC b) σ) (hv : C32 v) : CanS (shC b) (NC b) (upS σ 14 8 v) := h.uf (kC_14 b) (sC_14 b) rfl hv
theorem fC_14_9 {b : Bool} {σ : St} (h : CanS (shC b) (NC b) σ) : C32 (σ 14 9) := h.f32 (kC_14 b) (sC_14 b) rfl
theorem uC_14_9 {b : Bool} {σ : St} {v : Int} (h : CanS (shC b) (NC b) σ) (hv : C32 v) : CanS (shC b) (NC b) (upS σ 14 9 v) := h.uf (kC_14 b) (sC_14 b) rfl hv
theorem kC_15 (b : Bool) : 15 < NC b := nC b (by decide)
theorem sC_15 (b : Bool) : shC b 15 = (0, 40, []) := rfl
theorem aC_15 {b : Bool} {σ : St} (h : CanS (shC b) (NC b) σ) (j : Nat) : C32 (σ 15 j) := h.i32 0 (kC_15 b) (sC_15 b) (by decide) j
theorem wC_15 {b : Bool} {σ : St} {j : Nat} {v : Int} (h : CanS (shC b) (NC b) σ) (hv : C32 v) : CanS (shC b) (NC b) (upS σ 15 j v) := h.u32 0 (kC_15 b) (sC_15 b) (by decide) hv
theorem kC_16 (b : Bool) : 16 < NC b := nC b (by decide)
theorem sC_16 (b : Bool) : shC b 16 = (0, 40, []) := rfl
theorem aC_16 {b : Bool} {σ : St} (h : CanS (shC b) (NC b) σ) (j : Nat) : C32 (σ 16 j) := h.i32 0 (kC_16 b) (sC_16 b) (by decide) j
theorem wC_16 {b : Bool} {σ : St} {j : Nat} {v : Int} (h : CanS (shC b) (NC b) σ) (hv : C32 v) : CanS (shC b) (NC b) (upS σ 16 j v) := h.u32 0 (kC_16 b) (sC_16 b) (by decide) hv
theorem kC_17 (b : Bool) : 17 < NC b := nC b (by decide)
theorem sC_17 (b : Bool) : shC b 17 = (0, 40, []) := rfl
theorem aC_17 {b : Bool} {σ : St} (h : CanS (shC b) (NC b) σ) (j : Nat) : C32 (σ 17 j) := h.i32 0 (kC_17 b) (sC_17 b) (by decide) j
theorem wC_17 {b : Bool} {σ : St} {j : Nat} {v : Int} (h : CanS (shC b) (NC b) σ) (hv : C32 v) : CanS (shC b) (NC b) (upS σ 17 j v) := h.u32 0 (kC_17 b) (sC_17 b) (by decide) hv
theorem kC_18 (b : Bool) : 18 < NC b := nC b (by decide)
theorem sC_18 (b : Bool) : shC b 18 = (0, 40, []) := rfl
theorem aC_18 {b : Bool} {σ : St} (h : CanS (shC b) (NC b) σ) (j : Nat) : C32 (σ 18 j) := h.i32 0 (kC_18 b) (sC_18 b) (by decide) j
theorem wC_18 {b : Bool} {σ : St} {j : Nat} {v : Int} (h : CanS (shC b) (NC b) σ) (hv : C32 v) : CanS (shC b) (NC b) (upS σ 18 j v) := h.u32 0 (kC_18 b) (sC_18 b) (by decide) hv
theorem kC_19 (b : Bool) : 19 < NC b := nC b (by decide)
theorem sC_19 (b : Bool) : shC b 19 = (0, 40, []) := rfl
theorem aC_19 {b : Bool} {σ : St} (h : CanS (shC b) (NC b) σ) (j : Nat) : C32 (σ 19 j) := h.i32 0 (kC_19 b) (sC_19 b) (by decide) j
theorem wC_19 {b : Bool} {σ : St} {j : Nat} {v : Int} (h : CanS (shC b) (NC b) σ) (hv : C32 v) : CanS (shC b) (NC b) (upS σ 19 j v) := h.u32 0 (kC_19 b) (sC_19 b) (by decide) hv
theorem kC_20 (b : Bool) : 20 < NC b := nC b (by decide)
theorem sC_20 (b : Bool) : shC b 20 = (3, 40, []) := rfl
theorem aC_20 {b : Bool} {σ : St} (h : CanS (shC b) (NC b) σ) (j : Nat) : C32 (σ 20 j) := h.i32 3 (kC_20 b) (sC_20 b) (by decide) j
theorem wC_20 {b : Bool} {σ : St} {j : Nat} {v : Int} (h : CanS (shC b) (NC b) σ) (hv : C32 v) : CanS (shC b) (NC b) (upS σ 20 j v) := h.u32 3 (kC_20 b) (sC_20 b) (by decide) hv
theorem kC_21 (b : Bool) : 21 < NC b := nC b (by decide)
theorem sC_21 (b : Bool) : shC b 21 = (0, 25, []) := rfl
theorem aC_21 {b : Bool} {σ : St} (h : CanS (shC b) (NC b) σ) (j : Nat) : C32 (σ 21 j) := h.i32 0 (kC_21 b) (sC_21 b) (by decide) j
theorem wC_21 {b : Bool} {σ : St} {j : Nat} {v : Int} (h : CanS (shC b) (NC b) σ) (hv : C32 v) : CanS (shC b) (NC b) (upS σ 21 j v) := h.u32 0 (kC_21 b) (sC_21 b) (by decide) hv
theorem kC_22 (b : Bool) : 22 < NC b := nC b (by decide)
theorem sC_22 (b : Bool) : shC b 22 = (0, 25, []) := rfl
theorem aC_22 {b : Bool} {σ : St} (h : CanS (shC b) (NC b) σ) (j : Nat) : C32 (σ 22 j) := h.i32 0 (kC_22 b) (sC_22 b) (by decide) j
theorem wC_22 {b : Bool} {σ : St} {j : Nat} {v : Int} (h : CanS (shC b) (NC b) σ) (hv : C32 v) : CanS (shC b) (NC b) (upS σ 22 j v) := h.u32 0 (kC_22 b) (sC_22 b) (by decide) hv
theorem kC_23 (b : Bool) : 23 < NC b := nC b (by decide)
theorem sC_23 (b : Bool) : shC b 23 = (0, 12, []) := rfl
theorem aC_23 {b : Bool} {σ : St} (h : CanS (shC b) (NC b) σ) (j : Nat) : C32 (σ 23 j) := h.i32 0 (kC_23 b) (sC_23 b) (by decide) j
theorem wC_23 {b : Bool} {σ : St} {j : Nat} {v : Int} (h : CanS (shC b) (NC b) σ) (hv : C32 v) : CanS (shC b) (NC b) (upS σ 23 j v) := h.u32 0 (kC_23 b) (sC_23 b) (by decide) hv
theorem kC_24 (b : Bool) : 24 < NC b := nC b (by decide)
theorem sC_24 (b : Bool) : shC b 24 = (4, 0, [(2, 14), (2, 25), (0, 0), (0, 0), (2, 26), (2, 27), (2, 28), (2, 29), (2, 30), (2, 31), (2, 32), (2, 33), (0, 0), (2, 34), (0, 0), (2, 35), (0, 0), (0, 0)]) := rfl
theorem fC_24_2 {b : Bool} {σ : St} (h : CanS (shC b) (NC b) σ) : C32 (σ 24 2) := h.f32 (kC_24 b) (sC_24 b) rfl
theorem uC_24_2 {b : Bool} {σ : St} {v : Int} (h : CanS (shC b) (NC b) σ) (hv : C32 v) : CanS (shC b) (NC b) (upS σ 24 2 v) := h.uf (kC_24 b) (sC_24 b) rfl hv
theorem fC_24_3 {b : Bool} {σ : St} (h : CanS (shC b) (NC b) σ) : C32 (σ 24 3) := h.f32 (kC_24 b) (sC_24 b) rfl
theorem uC_24_3 {b : Bool} {σ : St} {v : Int} (h : CanS (shC b) (NC b) σ) (hv : C32 v) : CanS (shC b) (NC b) (upS σ 24 3 v) := h.uf (kC_24 b) (sC_24 b) rfl hv
theorem fC_24_12 {b : Bool} {σ : St} (h : CanS (shC b) (NC b) σ) : C32 (σ 24 12) := h.f32 (kC_24 b) (sC_24 b) rfl
theorem uC_24_12 {b : Bool} {σ : St} {v : Int} (h : CanS (shC b) (NC b) σ) (hv : C32 v) : CanS (shC b) (NC b) (upS σ 24 12 v) := h.uf (kC_24 b) (sC_24 b) rfl hv
theorem fC_24_14 {b : Bool} {σ : St} (h : CanS (shC b) (NC b) σ) : C32 (σ 24 14) := h.f32 (kC_24 b) (sC_24 b) rfl
theorem uC_24_14 {b : Bool} {σ : St} {v : Int} (h : CanS (shC b) (NC b) σ) (hv : C32 v) : CanS (shC b) (NC b) (upS σ 24 14 v) := h.uf (kC_24 b) (sC_24 b) rfl hv
theorem fC_24_16 {b : Bool} {σ : St} (h : CanS (shC b) (NC b) σ) : C32 (σ 24 16) := h.f32 (kC_24 b) (sC_24 b) rfl
theorem uC_24_16 {b : Bool} {σ : St} {v : Int} (h : CanS (shC b) (NC b) σ) (hv : C32 v) : CanS (shC b) (NC b) (upS σ 24 16 v) := h.uf (kC_24 b) (sC_24 b) rfl hv
theorem fC_24_17 {b : Bool} {σ : St} (h : CanS (shC b) (NC b) σ) : C32 (σ 24 17) := h.f32 (kC_24 b) (sC_24 b) rfl
theorem uC_24_17 {b : Bool} {σ : St} {v : Int} (h : CanS (shC b) (NC b) σ) (hv : C32 v) : CanS (shC b) (NC b) (upS σ 24 17 v) := h.uf (kC_24 b) (sC_24 b) rfl hv
theorem kC_25 (b : Bool) : 25 < NC b := nC b (by decide)
theorem sC_25 (b : Bool) : shC b 25 = (0, 8, []) := rfl
theorem aC_25 {b : Bool} {σ : St} (h : CanS (shC b) (NC b) σ) (j : Nat) : C32 (σ 25 j) := h.i32 0 (kC_25 b) (sC_25 b) (by decide) j
theorem wC_25 {b : Bool} {σ : St} {j : Nat} {v : Int} (h : CanS (shC b) (NC b) σ) (hv : C32 v) : CanS (shC b) (NC b) (upS σ 25 j v) := h.u32 0 (kC_25 b) (sC_25 b) (by decide) hv
theorem kC_26 (b : Bool) : 26 < NC b := nC b (by decide)
theorem sC_26 (b : Bool) : shC b 26 = (0, 36, []) := rfl
theorem aC_26 {b : Bool} {σ : St} (h : CanS (shC b) (NC b) σ) (j : Nat) : C32 (σ 26 j) := h.i32 0 (kC_26 b) (sC_26 b) (by decide) j
theorem wC_26 {b : Bool} {σ : St} {j : Nat} {v : Int} (h : CanS (shC b) (NC b) σ) (hv : C32 v) : CanS (shC b) (NC b) (upS σ 26 j v) := h.u32 0 (kC_26 b) (sC_26 b) (by decide) hv
theorem kC_27 (b : Bool) : 27 < NC b := nC b (by decide)
theorem sC_27 (b : Bool) : shC b 27 = (0, 36, []) := rfl
theorem aC_27 {b : Bool} {σ : St} (h : CanS (shC b) (NC b) σ) (j : Nat) : C32 (σ 27 j) := h.i32 0 (kC_27 b) (sC_27 b) (by decide) j
theorem wC_27 {b : Bool} {σ : St} {j : Nat} {v : Int} (h : CanS (shC b) (NC b) σ) (hv : C32 v) : CanS (shC b) (NC b) (upS σ 27 j v) := h.u32 0 (kC_27 b) (sC_27 b) (by decide) hv
theorem kC_28 (b : Bool) : 28 < NC b := nC b (by decide)
theorem sC_28 (b : Bool) : shC b 28 = (0, 81, []) := rfl
theorem aC_28 {b : Bool} {σ : St} (h : CanS (shC b) (NC b) σ) (j : Nat) : C32 (σ 28 j) := h.i32 0 (kC_28 b) (sC_28 b) (by decide) j
theorem wC_28 {b : Bool} {σ : St} {j : Nat} {v : Int} (h : CanS (shC b) (NC b) σ) (hv : C32 v) : CanS (shC b) (NC b) (upS σ 28 j v) := h.u32 0 (kC_28 b) (sC_28 b) (by decide) hv
theorem kC_29 (b : Bool) : 29 < NC b := nC b (by decide)
theorem sC_29 (b : Bool) : shC b 29 = (0, 3360, []) := rfl
theorem aC_29 {b : Bool} {σ : St} (h : CanS (shC b) (NC b) σ) (j : Nat) : C32 (σ 29 j) := h.i32 0 (kC_29 b) (sC_29 b) (by decide) j
theorem wC_29 {b : Bool} {σ : St} {j : Nat} {v : Int} (h : CanS (shC b) (NC b) σ) (hv : C32 v) : CanS (shC b) (NC b) (upS σ 29 j v) := h.u32 0 (kC_29 b) (sC_29 b) (by decide) hv
theorem kC_30 (b : Bool) : 30 < NC b := nC b (by decide)
theorem sC_30 (b : Bool) : shC b 30 = (0, 3360, []) := rfl
theorem aC_30 {b : Bool} {σ : St} (h : CanS (shC b) (NC b) σ) (j : Nat) : C32 (σ 30 j) := h.i32 0 (kC_30 b) (sC_30 b) (by decide) j
theorem wC_30 {b : Bool} {σ : St} {j : Nat} {v : Int} (h : CanS (shC b) (NC b) σ) (hv : C32 v) : CanS (shC b) (NC b) (upS σ 30 j v) := h.u32 0 (kC_30 b) (sC_30 b) (by decide) hv
theorem kC_31 (b : Bool) : 31 < NC b := nC b (by decide)
theorem sC_31 (b : Bool) : shC b 31 = (0, 3360, []) := rfl
theorem aC_31 {b : Bool} {σ : St} (h : CanS (shC b) (NC b) σ) (j : Nat) : C32 (σ 31 j) := h.i32 0 (kC_31 b) (sC_31 b) (by decide) j
theorem wC_31 {b : Bool} {σ : St} {j : Nat} {v : Int} (h : CanS (shC b) (NC b) σ) (hv : C32 v) : CanS (shC b) (NC b) (upS σ 31 j v) := h.u32 0 (kC_31 b) (sC_31 b) (by decide) hv
theorem kC_32 (b : Bool) : 32 < NC b := nC b (by decide)
theorem sC_32 (b : Bool) : shC b 32 = (0, 3360, []) := rfl
theorem aC_32 {b : Bool} {σ : St} (h : CanS (shC b) (NC b) σ) (j : Nat) : C32 (σ 32 j) := h.i32 0 (kC_32 b) (sC_32 b) (by decide) j
theorem wC_32 {b : Bool} {σ : St} {j : Nat} {v : Int} (h : CanS (shC b) (NC b) σ) (hv : C32 v) : CanS (shC b) (NC b) (upS σ 32 j v) := h.u32 0 (kC_32 b) (sC_32 b) (by decide) hv
theorem kC_33 (b : Bool) : 33 < NC b := nC b (by decide)
theorem sC_33 (b : Bool) : shC b 33 = (0, 40, []) := rfl
theorem aC_33 {b : Bool} {σ : St} (h : CanS (shC b) (NC b) σ) (j : Nat) : C32 (σ 33 j) := h.i32 0 (kC_33 b) (sC_33 b) (by decide) j
theorem wC_33 {b : Bool} {σ : St} {j : Nat} {v : Int} (h : CanS (shC b) (NC b) σ) (hv : C32 v) : CanS (shC b) (NC b) (upS σ 33 j v) := h.u32 0 (kC_33 b) (sC_33 b) (by decide) hv
theorem kC_34 (b : Bool) : 34 < NC b := nC b (by decide)
theorem sC_34 (b : Bool) : shC b 34 = (0, 40, []) := rfl
theorem aC_34 {b : Bool} {σ : St} (h : CanS (shC b) (NC b) σ) (j : Nat) : C32 (σ 34 j) := h.i32 0 (kC_34 b) (sC_34 b) (by decide) j
theorem wC_34 {b : Bool} {σ : St} {j : Nat} {v : Int} (h : CanS (shC b) (NC b) σ) (hv : C32 v) : CanS (shC b) (NC b) (upS σ 34 j v) := h.u32 0 (kC_34 b) (sC_34 b) (by decide) hv
theorem kC_35 (b : Bool) : 35 < NC b := nC b (by decide)
theorem sC_35 (b : Bool) : shC b 35 = (0, 433, []) := rfl
theorem aC_35 {b : Bool} {σ : St} (h : CanS (shC b) (NC b) σ) (j : Nat) : C32 (σ 35 j) := h.i32 0 (kC_35 b) (sC_35 b) (by decide) j
theorem wC_35 {b : Bool} {σ : St} {j : Nat} {v : Int} (h : CanS (shC b) (NC b) σ) (hv : C32 v) : CanS (shC b) (NC b) (upS σ 35 j v) := h.u32 0 (kC_35 b) (sC_35 b) (by decide) hv
theorem kC_36 (b : Bool) : 36 < NC b := nC b (by decide)
theorem sC_36 (b : Bool) : shC b 36 = (4, 1, [(2, 14), (2, 24), (2, 37), (2, 38), (2, 39), (2, 40), (0, 0), (0, 0), (0, 0), (0, 0)]) := rfl
theorem fC_36_6 {b : Bool} {σ : St} (h : CanS (shC b) (NC b) σ) : C32 (σ 36 6) := h.f32 (kC_36 b) (sC_36 b) rfl
theorem uC_36_6 {b : Bool} {σ : St} {v : Int} (h : CanS (shC b) (NC b) σ) (hv : C32 v) : CanS (shC b) (NC b) (upS σ 36 6 v) := h.uf (kC_36 b) (sC_36 b) rfl hv
theorem fC_36_7 {b : Bool} {σ : St} (h : CanS (shC b) (NC b) σ) : C32 (σ 36 7) := h.f32 (kC_36 b) (sC_36 b) rfl
theorem uC_36_7 {b : Bool} {σ : St} {v : Int} (h : CanS (shC b) (NC b) σ) (hv : C32 v) : CanS (shC b) (NC b) (upS σ 36 7 v) := h.uf (kC_36 b) (sC_36 b) rfl hv
theorem fC_36_8 {b : Bool} {σ : St} (h : CanS (shC b) (NC b) σ) : C32 (σ 36 8) := h.f32 (kC_36 b) (sC_36 b) rfl
theorem uC_36_8 {b : Bool} {σ : St} {v : Int} (h : CanS (shC b) (NC b) σ) (hv : C32 v) : CanS (shC b) (NC b) (upS σ 36 8 v) := h.uf (kC_36 b) (sC_36 b) rfl hv
theorem fC_36_9 {b : Bool} {σ : St} (h : CanS (shC b) (NC b) σ) : C32 (σ 36 9) := h.f32 (kC_36 b) (sC_36 b) rfl
theorem uC_36_9 {b : Bool} {σ : St} {v : Int} (h : CanS (shC b) (NC b) σ) (hv : C32 v) : CanS (shC b) (NC b) (upS σ 36 9 v) := h.uf (kC_36 b) (sC_36 b) rfl hv
theorem kC_37 (b : Bool) : 37 < NC b := nC b (by decide)
theorem sC_37 (b : Bool) : shC b 37 = (0, 432, []) := rfl
theorem aC_37 {b : Bool} {σ : St} (h : CanS (shC b) (NC b) σ) (j : Nat) : C32 (σ 37 j) := h.i32 0 (kC_37 b) (sC_37 b) (by decide) j
theorem wC_37 {b : Bool} {σ : St} {j : Nat} {v : Int} (h : CanS (shC b) (NC b) σ) (hv : C32 v) : CanS (shC b) (NC b) (upS σ 37 j v) := h.u32 0 (kC_37 b) (sC_37 b) (by decide) hv
theorem kC_38 (b : Bool) : 38 < NC b := nC b (by decide)
theorem sC_38 (b : Bool) : shC b 38 = (0, 432, []) := rfl
theorem aC_38 {b : Bool} {σ : St} (h : CanS (shC b) (NC b) σ) (j : Nat) : C32 (σ 38 j) := h.i32 0 (kC_38 b) (sC_38 b) (by decide) j
theorem wC_38 {b : Bool} {σ : St} {j : Nat} {v : Int} (h : CanS (shC b) (NC b) σ) (hv : C32 v) : CanS (shC b) (NC b) (upS σ 38 j v) := h.u32 0 (kC_38 b) (sC_38 b) (by decide) hv
theorem kC_39 (b : Bool) : 39 < NC b := nC b (by decide)
theorem sC_39 (b : Bool) : shC b 39 = (0, 432, []) := rfl
theorem aC_39 {b : Bool} {σ : St} (h : CanS (shC b) (NC b) σ) (j : Nat) : C32 (σ 39 j) := h.i32 0 (kC_39 b) (sC_39 b) (by decide) j
theorem wC_39 {b : Bool} {σ : St} {j : Nat} {v : Int} (h : CanS (shC b) (NC b) σ) (hv : C32 v) : CanS (shC b) (NC b) (upS σ 39 j v) := h.u32 0 (kC_39 b) (sC_39 b) (by decide) hv
theorem kC_40 (b : Bool) : 40 < NC b := nC b (by decide)
theorem sC_40 (b : Bool) : shC b 40 = (0, 432, []) := rfl
theorem aC_40 {b : Bool} {σ : St} (h : CanS (shC b) (NC b) σ) (j : Nat) : C32 (σ 40 j) := h.i32 0 (kC_40 b) (sC_40 b) (by decide) j
theorem wC_40 {b : Bool} {σ : St} {j : Nat} {v : Int} (h : CanS (shC b) (NC b) σ) (hv : C32 v) : CanS (shC b) (NC b) (upS σ 40 j v) := h.u32 0 (kC_40 b) (sC_40 b) (by decide) hv
theorem kC_41 (b : Bool) : 41 < NC b := nC b (by decide)
theorem sC_41 (b : Bool) : shC b 41 = (4, 2, [(2, 14), (2, 24), (2, 36), (2, 42), (2, 43), (2, 44), (0, 0), (0, 0), (0, 0)]) := rfl
theorem fC_41_6 {b : Bool} {σ : St} (h : CanS (shC b) (NC b) σ) : C32 (σ 41 6) := h.f32 (kC_41 b) (sC_41 b) rfl
theorem uC_41_6 {b : Bool} {σ : St} {v : Int} (h : CanS (shC b) (NC b) σ) (hv : C32 v) : CanS (shC b) (NC b) (upS σ 41 6 v) := h.uf (kC_41 b) (sC_41 b) rfl hv
theorem fC_41_7 {b : Bool} {σ : St} (h : CanS (shC b) (NC b) σ) : C32 (σ 41 7) := h.f32 (kC_41 b) (sC_41 b) rfl
theorem uC_41_7 {b : Bool} {σ : St} {v : Int} (h : CanS (shC b) (NC b) σ) (hv : C32 v) : CanS (shC b) (NC b) (upS σ 41 7 v) := h.uf (kC_41 b) (sC_41 b) rfl hv
theorem fC_41_8 {b : Bool} {σ : St} (h : CanS (shC b) (NC b) σ) : C32 (σ 41 8) := h.f32 (kC_41 b) (sC_41 b) rfl
theorem uC_41_8 {b : Bool} {σ : St} {v : Int} (h : CanS (shC b) (NC b) σ) (hv : C32 v) : CanS (shC b) (NC b) (upS σ 41 8 v) := h.uf (kC_41 b) (sC_41 b) rfl hv
theorem kC_42 (b : Bool) : 42 < NC b := nC b (by decide)
theorem sC_42 (b : Bool) : shC b 42 = (1, 432, []) := rfl
theorem aC_42 {b : Bool} {σ : St} (h : CanS (shC b) (NC b) σ) (j : Nat) : C64 (σ 42 j) := h.i64 (kC_42 b) (sC_42 b) j
theorem wC_42 {b : Bool} {σ : St} {j : Nat} {v : Int} (h : CanS (shC b) (NC b) σ) (hv : C64 v) : CanS (shC b) (NC b) (upS σ 42 j v) := h.u64 (kC_42 b) (sC_42 b) hv
theorem kC_43 (b : Bool) : 43 < NC b := nC b (by decide)
theorem sC_43 (b : Bool) : shC b 43 = (1, 432, []) := rfl
theorem aC_43 {b : Bool} {σ : St} (h : CanS (shC b) (NC b) σ) (j : Nat) : C64 (σ 43 j) := h.i64 (kC_43 b) (sC_43 b) j
theorem wC_43 {b : Bool} {σ : St} {j : Nat} {v : Int} (h : CanS (shC b) (NC b) σ) (hv : C64 v) : CanS (shC b) (NC b) (upS σ 43 j v) := h.u64 (kC_43 b) (sC_43 b) hv
theorem kC_44 (b : Bool) : 44 < NC b := nC b (by decide)
theorem sC_44 (b : Bool) : shC b 44 = (1, 432, []) := rfl
theorem aC_44 {b : Bool} {σ : St} (h : CanS (shC b) (NC b) σ) (j : Nat) : C64 (σ 44 j) := h.i64 (kC_44 b) (sC_44 b) j
theorem wC_44 {b : Bool} {σ : St} {j : Nat} {v : Int} (h : CanS (shC b) (NC b) σ) (hv : C64 v) : CanS (shC b) (NC b) (upS σ 44 j v) := h.u64 (kC_44 b) (sC_44 b) hv
theorem kC_45 (b : Bool) : 45 < NC b := nC b (by decide)
theorem sC_45 (b : Bool) : shC b 45 = (4, 7, [(2, 14), (2, 24), (2, 36), (2, 46), (2, 47), (2, 48), (2, 49), (0, 0)]) := rfl
theorem fC_45_7 {b : Bool} {σ : St} (h : CanS (shC b) (NC b) σ) : C32 (σ 45 7) := h.f32 (kC_45 b) (sC_45 b) rfl
theorem uC_45_7 {b : Bool} {σ : St} {v : Int} (h : CanS (shC b) (NC b) σ) (hv : C32 v) : CanS (shC b) (NC b) (upS σ 45 7 v) := h.uf (kC_45 b) (sC_45 b) rfl hv
theorem kC_46 (b : Bool) : 46 < NC b := nC b (by decide)
theorem sC_46 (b : Bool) : shC b 46 = (0, 432, []) := rfl
theorem aC_46 {b : Bool} {σ : St} (h : CanS (shC b) (NC b) σ) (j : Nat) : C32 (σ 46 j) := h.i32 0 (kC_46 b) (sC_46 b) (by decide) j
theorem wC_46 {b : Bool} {σ : St} {j : Nat} {v : Int} (h : CanS (shC b) (NC b) σ) (hv : C32 v) : CanS (shC b) (NC b) (upS σ 46 j v) := h.u32 0 (kC_46 b) (sC_46 b) (by decide) hv
theorem kC_47 (b : Bool) : 47 < NC b := nC b (by decide)
theorem sC_47 (b : Bool) : shC b 47 = (3, 36, []) := rfl
theorem aC_47 {b : Bool} {σ : St} (h : CanS (shC b) (NC b) σ) (j : Nat) : C32 (σ 47 j) := h.i32 3 (kC_47 b) (sC_47 b) (by decide) j
theorem wC_47 {b : Bool} {σ : St} {j : Nat} {v : Int} (h : CanS (shC b) (NC b) σ) (hv : C32 v) : CanS (shC b) (NC b) (upS σ 47 j v) := h.u32 3 (kC_47 b) (sC_47 b) (by decide) hv
theorem kC_48 (b : Bool) : 48 < NC b := nC b (by decide)
theorem sC_48 (b : Bool) : shC b 48 = (0, 156, []) := rfl
theorem aC_48 {b : Bool} {σ : St} (h : CanS (shC b) (NC b) σ) (j : Nat) : C32 (σ 48 j) := h.i32 0 (kC_48 b) (sC_48 b) (by decide) j
theorem wC_48 {b : Bool} {σ : St} {j : Nat} {v : Int} (h : CanS (shC b) (NC b) σ) (hv : C32 v) : CanS (shC b) (NC b) (upS σ 48 j v) := h.u32 0 (kC_48 b) (sC_48 b) (by decide) hv
theorem kC_49 (b : Bool) : 49 < NC b := nC b (by decide)
theorem sC_49 (b : Bool) : shC b 49 = (0, 12, []) := rfl
theorem aC_49 {b : Bool} {σ : St} (h : CanS (shC b) (NC b) σ) (j : Nat) : C32 (σ 49 j) := h.i32 0 (kC_49 b) (sC_49 b) (by decide) j
theorem wC_49 {b : Bool} {σ : St} {j : Nat} {v : Int} (h : CanS (shC b) (NC b) σ) (hv : C32 v) : CanS (shC b) (NC b) (upS σ 49 j v) := h.u32 0 (kC_49 b) (sC_49 b) (by decide) hv
theorem kC_50 (b : Bool) : 50 < NC b := nC b (by decide)
theorem sC_50 (b : Bool) : shC b 50 = (4, 9, [(2, 14), (2, 24), (2, 51), (2, 52), (2, 53), (0, 0), (0, 0)]) := rfl
theorem fC_50_5 {b : Bool} {σ : St} (h : CanS (shC b) (NC b) σ) : C32 (σ 50 5) := h.f32 (kC_50 b) (sC_50 b) rfl
theorem uC_50_5 {b : Bool} {σ : St} {v : Int} (h : CanS (shC b) (NC b) σ) (hv : C32 v) : CanS (shC b) (NC b) (upS σ 50 5 v) := h.uf (kC_50 b) (sC_50 b) rfl hv
theorem fC_50_6 {b : Bool} {σ : St} (h : CanS (shC b) (NC b) σ) : C32 (σ 50 6) := h.f32 (kC_50 b) (sC_50 b) rfl
theorem uC_50_6 {b : Bool} {σ : St} {v : Int} (h : CanS (shC b) (NC b) σ) (hv : C32 v) : CanS (shC b) (NC b) (upS σ 50 6 v) := h.uf (kC_50 b) (sC_50 b) rfl hv
theorem kC_51 (b : Bool) : 51 < NC b := nC b (by decide)
theorem sC_51 (b : Bool) : shC b 51 = (0, 432, []) := rfl
theorem aC_51 {b : Bool} {σ : St} (h : CanS (shC b) (NC b) σ) (j : Nat) : C32 (σ 51 j) := h.i32 0 (kC_51 b) (sC_51 b) (by decide) j
theorem wC_51 {b : Bool} {σ : St} {j : Nat} {v : Int} (h : CanS (shC b) (NC b) σ) (hv : C32 v) : CanS (shC b) (NC b) (upS σ 51 j v) := h.u32 0 (kC_51 b) (sC_51 b) (by decide) hv
theorem kC_52 (b : Bool) : 52 < NC b := nC b (by decide)
theorem sC_52 (b : Bool) : shC b 52 = (0, 432, []) := rfl
theorem aC_52 {b : Bool} {σ : St} (h : CanS (shC b) (NC b) σ) (j : Nat) : C32 (σ 52 j) := h.i32 0 (kC_52 b) (sC_52 b) (by decide) j
theorem wC_52 {b : Bool} {σ : St} {j : Nat} {v : Int} (h : CanS (shC b) (NC b) σ) (hv : C32 v) : CanS (shC b) (NC b) (upS σ 52 j v) := h.u32 0 (kC_52 b) (sC_52 b) (by decide) hv
theorem kC_53 (b : Bool) : 53 < NC b := nC b (by decide)
theorem sC_53 (b : Bool) : shC b 53 = (3, 5, []) := rfl
theorem aC_53 {b : Bool} {σ : St} (h : CanS (shC b) (NC b) σ) (j : Nat) : C32 (σ 53 j) := h.i32 3 (kC_53 b) (sC_53 b) (by decide) j
theorem wC_53 {b : Bool} {σ : St} {j : Nat} {v : Int} (h : CanS (shC b) (NC b) σ) (hv : C32 v) : CanS (shC b) (NC b) (upS σ 53 j v) := h.u32 3 (kC_53 b) (sC_53 b) (by decide) hv
theorem kC_54 (b : Bool) : 54 < NC b := nC b (by decide)
theorem sC_54 (b : Bool) : shC b 54 = (4, 3, [(2, 14), (2, 24), (2, 36), (2, 55), (2, 56), (2, 57), (2, 58), (2, 59), (2, 60), (2, 61), (2, 62), (2, 63), (2, 64), (2, 65), (2, 66), (2, 67), (0, 0), (0, 0)]) := rfl
theorem fC_54_16 {b : Bool} {σ : St} (h : CanS (shC b) (NC b) σ) : C32 (σ 54 16) := h.f32 (kC_54 b) (sC_54 b) rfl
theorem uC_54_16 {b : Bool} {σ : St} {v : Int} (h : CanS (shC b) (NC b) σ) (hv : C32 v) : CanS (shC b) (NC b) (upS σ 54 16 v) := h.uf (kC_54 b) (sC_54 b) rfl hv
theorem fC_54_17 {b : Bool} {σ : St} (h : CanS (shC b) (NC b) σ) : C32 (σ 54 17) := h.f32 (kC_54 b) (sC_54 b) rfl
theorem uC_54_17 {b : Bool} {σ : St} {v : Int} (h : CanS (shC b) (NC b) σ) (hv : C32 v) : CanS (shC b) (NC b) (upS σ 54 17 v) := h.uf (kC_54 b) (sC_54 b) rfl hv
theorem kC_55 (b : Bool) : 55 < NC b := nC b (by decide)
theorem sC_55 (b : Bool) : shC b 55 = (0, 6912, []) := rfl
theorem aC_55 {b : Bool} {σ : St} (h : CanS (shC b) (NC b) σ) (j : Nat) : C32 (σ 55 j) := h.i32 0 (kC_55 b) (sC_55 b) (by decide) j
theorem wC_55 {b : Bool} {σ : St} {j : Nat} {v : Int} (h : CanS (shC b) (NC b) σ) (hv : C32 v) : CanS (shC b) (NC b) (upS σ 55 j v) := h.u32 0 (kC_55 b) (sC_55 b) (by decide) hv
theorem kC_56 (b : Bool) : 56 < NC b := nC b (by decide)
theorem sC_56 (b : Bool) : shC b 56 = (0, 6912, []) := rfl
theorem aC_56 {b : Bool} {σ : St} (h : CanS (shC b) (NC b) σ) (j : Nat) : C32 (σ 56 j) := h.i32 0 (kC_56 b) (sC_56 b) (by decide) j
theorem wC_56 {b : Bool} {σ : St} {j : Nat} {v : Int} (h : CanS (shC b) (NC b) σ) (hv : C32 v) : CanS (shC b) (NC b) (upS σ 56 j v) := h.u32 0 (kC_56 b) (sC_56 b) (by decide) hv
theorem kC_57 (b : Bool) : 57 < NC b := nC b (by decide)
theorem sC_57 (b : Bool) : shC b 57 = (0, 6912, []) := rfl
theorem aC_57 {b : Bool} {σ : St} (h : CanS (shC b) (NC b) σ) (j : Nat) : C32 (σ 57 j) := h.i32 0 (kC_57 b) (sC_57 b) (by decide) j
theorem wC_57 {b : Bool} {σ : St} {j : Nat} {v : Int} (h : CanS (shC b) (NC b) σ) (hv : C32 v) : CanS (shC b) (NC b) (upS σ 57 j v) := h.u32 0 (kC_57 b) (sC_57 b) (by decide) hv
theorem kC_58 (b : Bool) : 58 < NC b := nC b (by decide)
theorem sC_58 (b : Bool) : shC b 58 = (0, 6912, []) := rfl
theorem aC_58 {b : Bool} {σ : St} (h : CanS (shC b) (NC b) σ) (j : Nat) : C32 (σ 58 j) := h.i32 0 (kC_58 b) (sC_58 b) (by decide) j
theorem wC_58 {b : Bool} {σ : St} {j : Nat} {v : Int} (h : CanS (shC b) (NC b) σ) (hv : C32 v) : CanS (shC b) (NC b) (upS σ 58 j v) := h.u32 0 (kC_58 b) (sC_58 b) (by decide) hv
theorem kC_59 (b : Bool) : 59 < NC b := nC b (by decide)
theorem sC_59 (b : Bool) : shC b 59 = (0, 432, []) := rfl
theorem aC_59 {b : Bool} {σ : St} (h : CanS (shC b) (NC b) σ) (j : Nat) : C32 (σ 59 j) := h.i32 0 (kC_59 b) (sC_59 b) (by decide) j
theorem wC_59 {b : Bool} {σ : St} {j : Nat} {v : Int} (h : CanS (shC b) (NC b) σ) (hv : C32 v) : CanS (shC b) (NC b) (upS σ 59 j v) := h.u32 0 (kC_59 b) (sC_59 b) (by decide) hv
theorem kC_60 (b : Bool) : 60 < NC b := nC b (by decide)
theorem sC_60 (b : Bool) : shC b 60 = (3, 36, []) := rfl
theorem aC_60 {b : Bool} {σ : St} (h : CanS (shC b) (NC b) σ) (j : Nat) : C32 (σ 60 j) := h.i32 3 (kC_60 b) (sC_60 b) (by decide) j
theorem wC_60 {b : Bool} {σ : St} {j : Nat} {v : Int} (h : CanS (shC b) (NC b) σ) (hv : C32 v) : CanS (shC b) (NC b) (upS σ 60 j v) := h.u32 3 (kC_60 b) (sC_60 b) (by decide) hv
theorem kC_61 (b : Bool) : 61 < NC b := nC b (by decide)
theorem sC_61 (b : Bool) : shC b 61 = (0, 192, []) := rfl
theorem aC_61 {b : Bool} {σ : St} (h : CanS (shC b) (NC b) σ) (j : Nat) : C32 (σ 61 j) := h.i32 0 (kC_61 b) (sC_61 b) (by decide) j
theorem wC_61 {b : Bool} {σ : St} {j : Nat} {v : Int} (h : CanS (shC b) (NC b) σ) (hv : C32 v) : CanS (shC b) (NC b) (upS σ 61 j v) := h.u32 0 (kC_61 b) (sC_61 b) (by decide) hv
theorem kC_62 (b : Bool) : 62 < NC b := nC b (by decide)
theorem sC_62 (b : Bool) : shC b 62 = (0, 192, []) := rfl
theorem aC_62 {b : Bool} {σ : St} (h : CanS (shC b) (NC b) σ) (j : Nat) : C32 (σ 62 j) := h.i32 0 (kC_62 b) (sC_62 b) (by decide) j
theorem wC_62 {b : Bool} {σ : St} {j : Nat} {v : Int} (h : CanS (shC b) (NC b) σ) (hv : C32 v) : CanS (shC b) (NC b) (upS σ 62 j v) := h.u32 0 (kC_62 b) (sC_62 b) (by decide) hv
theorem kC_63 (b : Bool) : 63 < NC b := nC b (by decide)
theorem sC_63 (b : Bool) : shC b 63 = (0, 192, []) := rfl
theorem aC_63 {b : Bool} {σ : St} (h : CanS (shC b) (NC b) σ) (j : Nat) : C32 (σ 63 j) := h.i32 0 (kC_63 b) (sC_63 b) (by decide) j
theorem wC_63 {b : Bool} {σ : St} {j : Nat} {v : Int} (h : CanS (shC b) (NC b) σ) (hv : C32 v) : CanS (shC b) (NC b) (upS σ 63 j v) := h.u32 0 (kC_63 b) (sC_63 b) (by decide) hv
theorem kC_64 (b : Bool) : 64 < NC b := nC b (by decide)
theorem sC_64 (b : Bool) : shC b 64 = (0, 12, []) := rfl
theorem aC_64 {b : Bool} {σ : St} (h : CanS (shC b) (NC b) σ) (j : Nat) : C32 (σ 64 j) := h.i32 0 (kC_64 b) (sC_64 b) (by decide) j
theorem wC_64 {b : Bool} {σ : St} {j : Nat} {v : Int} (h : CanS (shC b) (NC b) σ) (hv : C32 v) : CanS (shC b) (NC b) (upS σ 64 j v) := h.u32 0 (kC_64 b) (sC_64 b) (by decide) hv
theorem kC_65 (b : Bool) : 65 < NC b := nC b (by decide)
theorem sC_65 (b : Bool) : shC b 65 = (0, 12, []) := rfl
theorem aC_65 {b : Bool} {σ : St} (h : CanS (shC b) (NC b) σ) (j : Nat) : C32 (σ 65 j) := h.i32 0 (kC_65 b) (sC_65 b) (by decide) j
theorem wC_65 {b : Bool} {σ : St} {j : Nat} {v : Int} (h : CanS (shC b) (NC b) σ) (hv : C32 v) : CanS (shC b) (NC b) (upS σ 65 j v) := h.u32 0 (kC_65 b) (sC_65 b) (by decide) hv
theorem kC_66 (b : Bool) : 66 < NC b := nC b (by decide)
theorem sC_66 (b : Bool) : shC b 66 = (0, 40, []) := rfl
theorem aC_66 {b : Bool} {σ : St} (h : CanS (shC b) (NC b) σ) (j : Nat) : C32 (σ 66 j) := h.i32 0 (kC_66 b) (sC_66 b) (by decide) j
theorem wC_66 {b : Bool} {σ : St} {j : Nat} {v : Int} (h : CanS (shC b) (NC b) σ) (hv : C32 v) : CanS (shC b) (NC b) (upS σ 66 j v) := h.u32 0 (kC_66 b) (sC_66 b) (by decide) hv
theorem kC_67 (b : Bool) : 67 < NC b := nC b (by decide)
theorem sC_67 (b : Bool) : shC b 67 = (0, 40, []) := rfl
theorem aC_67 {b : Bool} {σ : St} (h : CanS (shC b) (NC b) σ) (j : Nat) : C32 (σ 67 j) := h.i32 0 (kC_67 b) (sC_67 b) (by decide) j
theorem wC_67 {b : Bool} {σ : St} {j : Nat} {v : Int} (h : CanS (shC b) (NC b) σ) (hv : C32 v) : CanS (shC b) (NC b) (upS σ 67 j v) := h.u32 0 (kC_67 b) (sC_67 b) (by decide) hv
theorem kC_68 (b : Bool) : 68 < NC b := nC b (by decide)
theorem sC_68 (b : Bool) : shC b 68 = (4, 10, [(2, 14), (2, 24), (2, 54), (2, 69), (2, 70), (2, 71), (0, 0), (0, 0), (0, 0), (0, 0)]) := rfl
theorem fC_68_6 {b : Bool} {σ : St} (h : CanS (shC b) (NC b) σ) : C32 (σ 68 6) := h.f32 (kC_68 b) (sC_68 b) rfl
theorem uC_68_6 {b : Bool} {σ : St} {v : Int} (h : CanS (shC b) (NC b) σ) (hv : C32 v) : CanS (shC b) (NC b) (upS σ 68 6 v) := h.uf (kC_68 b) (sC_68 b) rfl hv
theorem fC_68_7 {b : Bool} {σ : St} (h : CanS (shC b) (NC b) σ) : C32 (σ 68 7) := h.f32 (kC_68 b) (sC_68 b) rfl
theorem uC_68_7 {b : Bool} {σ : St} {v : Int} (h : CanS (shC b) (NC b) σ) (hv : C32 v) : CanS (shC b) (NC b) (upS σ 68 7 v) := h.uf (kC_68 b) (sC_68 b) rfl hv
theorem fC_68_8 {b : Bool} {σ : St} (h : CanS (shC b) (NC b) σ) : C32 (σ 68 8) := h.f32 (kC_68 b) (sC_68 b) rfl
theorem uC_68_8 {b : Bool} {σ : St} {v : Int} (h : CanS (shC b) (NC b) σ) (hv : C32 v) : CanS (shC b) (NC b) (upS σ 68 8 v) := h.uf (kC_68 b) (sC_68 b) rfl hv
theorem fC_68_9 {b : Bool} {σ : St} (h : CanS (shC b) (NC b) σ) : C32 (σ 68 9) := h.f32 (kC_68 b) (sC_68 b) rfl
theorem uC_68_9 {b : Bool} {σ : St} {v : Int} (h : CanS (shC b) (NC b) σ) (hv : C32 v) : CanS (shC b) (NC b) (upS σ 68 9 v) := h.uf (kC_68 b) (sC_68 b) rfl hv
theorem kC_69 (b : Bool) : 69 < NC b := nC b (by decide)
theorem sC_69 (b : Bool) : shC b 69 = (0, 2560, []) := rfl
theorem aC_69 {b : Bool} {σ : St} (h : CanS (shC b) (NC b) σ) (j : Nat) : C32 (σ 69 j) := h.i32 0 (kC_69 b) (sC_69 b) (by decide) j
theorem wC_69 {b : Bool} {σ : St} {j : Nat} {v : Int} (h : CanS (shC b) (NC b) σ) (hv : C32 v) : CanS (shC b) (NC b) (upS σ 69 j v) := h.u32 0 (kC_69 b) (sC_69 b) (by decide) hv
theorem kC_70 (b : Bool) : 70 < NC b := nC b (by decide)
theorem sC_70 (b : Bool) : shC b 70 = (0, 2560, []) := rfl
theorem aC_70 {b : Bool} {σ : St} (h : CanS (shC b) (NC b) σ) (j : Nat) : C32 (σ 70 j) := h.i32 0 (kC_70 b) (sC_70 b) (by decide) j
theorem wC_70 {b : Bool} {σ : St} {j : Nat} {v : Int} (h : CanS (shC b) (NC b) σ) (hv : C32 v) : CanS (shC b) (NC b) (upS σ 70 j v) := h.u32 0 (kC_70 b) (sC_70 b) (by decide) hv
theorem kC_71 (b : Bool) : 71 < NC b := nC b (by decide)
theorem sC_71 (b : Bool) : shC b 71 = (0, 512, []) := rfl
theorem aC_71 {b : Bool} {σ : St} (h : CanS (shC b) (NC b) σ) (j : Nat) : C32 (σ 71 j) := h.i32 0 (kC_71 b) (sC_71 b) (by decide) j
theorem wC_71 {b : Bool} {σ : St} {j : Nat} {v : Int} (h : CanS (shC b) (NC b) σ) (hv : C32 v) : CanS (shC b) (NC b) (upS σ 71 j v) := h.u32 0 (kC_71 b) (sC_71 b) (by decide) hv
theorem kC_72 (b : Bool) : 72 < NC b := nC b (by decide)
theorem sC_72 (b : Bool) : shC b 72 = (4, 10, [(2, 14), (2, 24), (2, 54), (2, 73), (2, 74), (2, 75), (0, 0), (0, 0), (0, 0), (0, 0)]) := rfl
theorem fC_72_6 {b : Bool} {σ : St} (h : CanS (shC b) (NC b) σ) : C32 (σ 72 6) := h.f32 (kC_72 b) (sC_72 b) rfl
theorem uC_72_6 {b : Bool} {σ : St} {v : Int} (h : CanS (shC b) (NC b) σ) (hv : C32 v) : CanS (shC b) (NC b) (upS σ 72 6 v) := h.uf (kC_72 b) (sC_72 b) rfl hv
theorem fC_72_7 {b : Bool} {σ : St} (h : CanS (shC b) (NC b) σ) : C32 (σ 72 7) := h.f32 (kC_72 b) (sC_72 b) rfl
theorem uC_72_7 {b : Bool} {σ : St} {v : Int} (h : CanS (shC b) (NC b) σ) (hv : C32 v) : CanS (shC b) (NC b) (upS σ 72 7 v) := h.uf (kC_72 b) (sC_72 b) rfl hv
theorem fC_72_8 {b : Bool} {σ : St} (h : CanS (shC b) (NC b) σ) : C32 (σ 72 8) := h.f32 (kC_72 b) (sC_72 b) rfl
theorem uC_72_8 {b : Bool} {σ : St} {v : Int} (h : CanS (shC b) (NC b) σ) (hv : C32 v) : CanS (shC b) (NC b) (upS σ 72 8 v) := h.uf (kC_72 b) (sC_72 b) rfl hv
theorem fC_72_9 {b : Bool} {σ : St} (h : CanS (shC b) (NC b) σ) : C32 (σ 72 9) := h.f32 (kC_72 b) (sC_72 b) rfl
theorem uC_72_9 {b : Bool} {σ : St} {v : Int} (h : CanS (shC b) (NC b) σ) (hv : C32 v) : CanS (shC b) (NC b) (upS σ 72 9 v) := h.uf (kC_72 b) (sC_72 b) rfl hv
theorem kC_73 (b : Bool) : 73 < NC b := nC b (by decide)
theorem sC_73 (b : Bool) : shC b 73 = (0, 2560, []) := rfl
theorem aC_73 {b : Bool} {σ : St} (h : CanS (shC b) (NC b) σ) (j : Nat) : C32 (σ 73 j) := h.i32 0 (kC_73 b) (sC_73 b) (by decide) j
theorem wC_73 {b : Bool} {σ : St} {j : Nat} {v : Int} (h : CanS (shC b) (NC b) σ) (hv : C32 v) : CanS (shC b) (NC b) (upS σ 73 j v) := h.u32 0 (kC_73 b) (sC_73 b) (by decide) hv
theorem kC_74 (b : Bool) : 74 < NC b := nC b (by decide)
theorem sC_74 (b : Bool) : shC b 74 = (0, 2560, []) := rfl
theorem aC_74 {b : Bool} {σ : St} (h : CanS (shC b) (NC b) σ) (j : Nat) : C32 (σ 74 j) := h.i32 0 (kC_74 b) (sC_74 b) (by decide) j
theorem wC_74 {b : Bool} {σ : St} {j : Nat} {v : Int} (h : CanS (shC b) (NC b) σ) (hv : C32 v) : CanS (shC b) (NC b) (upS σ 74 j v) := h.u32 0 (kC_74 b) (sC_74 b) (by decide) hv
theorem kC_75 (b : Bool) : 75 < NC b := nC b (by decide)
theorem sC_75 (b : Bool) : shC b 75 = (0, 512, []) := rfl
theorem aC_75 {b : Bool} {σ : St} (h : CanS (shC b) (NC b) σ) (j : Nat) : C32 (σ 75 j) := h.i32 0 (kC_75 b) (sC_75 b) (by decide) j
theorem wC_75 {b : Bool} {σ : St} {j : Nat} {v : Int} (h : CanS (shC b) (NC b) σ) (hv : C32 v) : CanS (shC b) (NC b) (upS σ 75 j v) := h.u32 0 (kC_75 b) (sC_75 b) (by decide) hv
theorem kC_76 (b : Bool) : 76 < NC b := nC b (by decide)
def fT (b : Bool) : List (Nat × Nat) := if b then [(2, 14), (2, 24), (2, 36), (2, 77), (2, 78), (2, 79), (2, 83)] else [(2, 14), (2, 24), (2, 36), (2, 77), (2, 78), (2, 79), (3, 0)]
theorem sC_76 (b : Bool) : shC b 76 = (4, 8, fT b) := by cases b <;> rfl
theorem sC_76t : shC true 76 = (4, 8, [(2, 14), (2, 24), (2, 36), (2, 77), (2, 78), (2, 79), (2, 83)]) := rfl
theorem sC_76f : shC false 76 = (4, 8, [(2, 14), (2, 24), (2, 36), (2, 77), (2, 78), (2, 79), (3, 0)]) := rfl
theorem kC_77 (b : Bool) : 77 < NC b := nC b (by decide)
theorem sC_77 (b : Bool) : shC b 77 = (0, 36, []) := rfl
theorem aC_77 {b : Bool} {σ : St} (h : CanS (shC b) (NC b) σ) (j : Nat) : C32 (σ 77 j) := h.i32 0 (kC_77 b) (sC_77 b) (by decide) j
theorem wC_77 {b : Bool} {σ : St} {j : Nat} {v : Int} (h : CanS (shC b) (NC b) σ) (hv : C32 v) : CanS (shC b) (NC b) (upS σ 77 j v) := h.u32 0 (kC_77 b) (sC_77 b) (by decide) hv
theorem kC_78 (b : Bool) : 78 < NC b := nC b (by decide)
theorem sC_78 (b : Bool) : shC b 78 = (0, 432, []) := rfl
theorem aC_78 {b : Bool} {σ : St} (h : CanS (shC b) (NC b) σ) (j : Nat) : C32 (σ 78 j) := h.i32 0 (kC_78 b) (sC_78 b) (by decide) j
theorem wC_78 {b : Bool} {σ : St} {j : Nat} {v : Int} (h : CanS (shC b) (NC b) σ) (hv : C32 v) : CanS (shC b) (NC b) (upS σ 78 j v) := h.u32 0 (kC_78 b) (sC_78 b) (by decide) hv
theorem kC_79 (b : Bool) : 79 < NC b := nC b (by decide)
theorem sC_79 (b : Bool) : shC b 79 = (1, 432, []) := rfl
theorem aC_79 {b : Bool} {σ : St} (h : CanS (shC b) (NC b) σ) (j : Nat) : C64 (σ 79 j) := h.i64 (kC_79 b) (sC_79 b) j
theorem wC_79 {b : Bool} {σ : St} {j : Nat} {v : Int} (h : CanS (shC b) (NC b) σ) (hv : C64 v) : CanS (shC b) (NC b) (upS σ 79 j v) := h.u64 (kC_79 b) (sC_79 b) hv
theorem kC_80 (b : Bool) : 80 < NC b := nC b (by decide)
theorem sC_80 (b : Bool) : shC b 80 = (4, 5, [(2, 14), (2, 24), (2, 36), (2, 81), (2, 82), (0, 0), (0, 0), (0, 0), (0, 0), (0, 0)]) := rfl
theorem fC_80_5 {b : Bool} {σ : St} (h : CanS (shC b) (NC b) σ) : C32 (σ 80 5) := h.f32 (kC_80 b) (sC_80 b) rfl
theorem uC_80_5 {b : Bool} {σ : St} {v : Int} (h : CanS (shC b) (NC b) σ) (hv : C32 v) : CanS (shC b) (NC b) (upS σ 80 5 v) := h.uf (kC_80 b) (sC_80 b) rfl hv
theorem fC_80_6 {b : Bool} {σ : St} (h : CanS (shC b) (NC b) σ) : C32 (σ 80 6) := h.f32 (kC_80 b) (sC_80 b) rfl
theorem uC_80_6 {b : Bool} {σ : St} {v : Int} (h : CanS (shC b) (NC b) σ) (hv : C32 v) : CanS (shC b) (NC b) (upS σ 80 6 v) := h.uf (kC_80 b) (sC_80 b) rfl hv
theorem fC_80_7 {b : Bool} {σ : St} (h : CanS (shC b) (NC b) σ) : C32 (σ 80 7) := h.f32 (kC_80 b) (sC_80 b) rfl
theorem uC_80_7 {b : Bool} {σ : St} {v : Int} (h : CanS (shC b) (NC b) σ) (hv : C32 v) : CanS (shC b) (NC b) (upS σ 80 7 v) := h.uf (kC_80 b) (sC_80 b) rfl hv
theorem fC_80_8 {b : Bool} {σ : St} (h : CanS (shC b) (NC b) σ) : C32 (σ 80 8) := h.f32 (kC_80 b) (sC_80 b) rfl
theorem uC_80_8 {b : Bool} {σ : St} {v : Int} (h : CanS (shC b) (NC b) σ) (hv : C32 v) : CanS (shC b) (NC b) (upS σ 80 8 v) := h.uf (kC_80 b) (sC_80 b) rfl hv
theorem fC_80_9 {b : Bool} {σ : St} (h : CanS (shC b) (NC b) σ) : C32 (σ 80 9) := h.f32 (kC_80 b) (sC_80 b) rfl
theorem uC_80_9 {b : Bool} {σ : St} {v : Int} (h : CanS (shC b) (NC b) σ) (hv : C32 v) : CanS (shC b) (NC b) (upS σ 80 9 v) := h.uf (kC_80 b) (sC_80 b) rfl hv
theorem kC_81 (b : Bool) : 81 < NC b := nC b (by decide)
theorem sC_81 (b : Bool) : shC b 81 = (0, 432, []) := rfl
theorem aC_81 {b : Bool} {σ : St} (h : CanS (shC b) (NC b) σ) (j : Nat) : C32 (σ 81 j) := h.i32 0 (kC_81 b) (sC_81 b) (by decide) j
theorem wC_81 {b : Bool} {σ : St} {j : Nat} {v : Int} (h : CanS (shC b) (NC b) σ) (hv : C32 v) : CanS (shC b) (NC b) (upS σ 81 j v) := h.u32 0 (kC_81 b) (sC_81 b) (by decide) hv
theorem kC_82 (b : Bool) : 82 < NC b := nC b (by decide)
theorem sC_82 (b : Bool) : shC b 82 = (0, 208, []) := rfl
theorem aC_82 {b : Bool} {σ : St} (h : CanS (shC b) (NC b) σ) (j : Nat) : C32 (σ 82 j) := h.i32 0 (kC_82 b) (sC_82 b) (by decide) j
theorem wC_82 {b : Bool} {σ : St} {j : Nat} {v : Int} (h : CanS (shC b) (NC b) σ) (hv : C32 v) : CanS (shC b) (NC b) (upS σ 82 j v) := h.u32 0 (kC_82 b) (sC_82 b) (by decide) hv
theorem kC_83 (b : Bool) (h : b = true := by rfl) : 83 < NC b := by subst h; decide
theorem sC_83 (b : Bool) : shC b 83 = (1, 130032, []) := rfl
theorem aC_83 {σ : St} (h : CanS (shC true) (NC true) σ) (j : Nat) : C64 (σ 83 j) := h.i64 (kC_83 true) (sC_83 true) j
theorem wC_83 {σ : St} {j : Nat} {v : Int} (h : CanS (shC true) (NC true) σ) (hv : C64 v) : CanS (shC true) (NC true) (upS σ 83 j v) := h.u64 (kC_83 true) (sC_83 true) hv
def tbR : List Shp := [(4, 12, [(0, 0), (0, 0), (1, 0), (2, 1), (2, 2), (2, 3), (2, 4), (2, 5), (2, 6), (2, 7), (2, 8), (2, 9), (2, 10), (0, 0), (2, 11), (0, 0), (2, 12), (0, 0), (2, 13), (0, 0), (0, 0), (0, 0), (0, 0), (0, 0), (0, 0), (0, 0), (2, 14), (0, 0), (1, 0), (2, 15), (2, 16), (2, 17), (2, 18), (2, 19), (2, 20), (2, 21), (1, 0), (2, 22), (2, 23), (2, 24), (2, 25), (0, 0), (2, 26), (2, 27), (0, 0), (2, 28), (2, 29), (2, 30), (2, 31), (2, 32), (2, 33), (2, 34), (2, 35), (2, 36), (0, 0), (0, 0), (2, 37), (2, 38), (2, 39), (0, 0), (2, 40), (0, 0), (2, 41), (0, 0), (0, 0), (0, 0)]),
 (0, 80, []),
 (0, 80, []),
 (0, 80, []),
 (0, 80, []),
 (0, 80, []),
 (0, 2, []),
 (0, 2, []),
 (0, 2, []),
 (0, 50, []),
 (0, 50, []),
 (0, 8, []),
 (2, 1000, []),
 (0, 5, []),
 (0, 8, []),
 (0, 768, []),
 (3, 768, []),
 (3, 768, []),
 (1, 768, []),
 (0, 12, []),
 (0, 768, []),
 (3, 768, []),
 (1, 768, []),
 (3, 64, []),
 (1, 156, []),
 (0, 12, []),
 (0, 768, []),
 (0, 768, []),
 (0, 40000, []),
 (0, 40000, []),
 (0, 40000, []),
 (0, 40000, []),
 (0, 40000, []),
 (0, 40000, []),
 (0, 40000, []),
 (0, 40000, []),
 (0, 40000, []),
 (0, 12288, []),
 (0, 768, []),
 (0, 1000, []),
 (2, 20000, []),
 (1, 231168, [])]
def shR (k : Nat) : Shp := tbR.getD k (9, 0, [])
abbrev NR : Nat := 42
theorem kR_0 : 0 < NR := by decide
theorem sR_0 : shR 0 = (4, 12, [(0, 0), (0, 0), (1, 0), (2, 1), (2, 2), (2, 3), (2, 4), (2, 5), (2, 6), (2, 7), (2, 8), (2, 9), (2, 10), (0, 0), (2, 11), (0, 0), (2, 12), (0, 0), (2, 13), (0, 0), (0, 0), (0, 0), (0, 0), (0, 0), (0, 0), (0, 0), (2, 14), (0, 0), (1, 0), (2, 15), (2, 16), (2, 17), (2, 18), (2, 19), (2, 20), (2, 21), (1, 0), (2, 22), (2, 23), (2, 24), (2, 25), (0, 0), (2, 26), (2, 27), (0, 0), (2, 28), (2, 29), (2, 30), (2, 31), (2, 32), (2, 33), (2, 34), (2, 35), (2, 36), (0, 0), (0, 0), (2, 37), (2, 38), (2, 39), (0, 0), (2, 40), (0, 0), (2, 41), (0, 0), (0, 0), (0, 0)]) := rfl
theorem fR_0_0 {σ : St} (h : CanS shR NR σ) : C32 (σ 0 0) := h.f32 kR_0 sR_0 rfl
theorem uR_0_0 {σ : St} {v : Int} (h : CanS shR NR σ) (hv : C32 v) : CanS shR NR (upS σ 0 0 v) := h.uf kR_0 sR_0 rfl hv
theorem fR_0_1 {σ : St} (h : CanS shR NR σ) : C32 (σ 0 1) := h.f32 kR_0 sR_0 rfl
theorem uR_0_1 {σ : St} {v : Int} (h : CanS shR NR σ) (hv : C32 v) : CanS shR NR (upS σ 0 1 v) := h.uf kR_0 sR_0 rfl hv
theorem fR_0_2 {σ : St} (h : CanS shR NR σ) : C64 (σ 0 2) := h.f64 kR_0 sR_0 rfl
theorem uR_0_2 {σ : St} {v : Int} (h : CanS shR NR σ) (hv : C64 v) : CanS shR NR (upS σ 0 2 v) := h.ufl kR_0 sR_0 rfl hv
theorem fR_0_13 {σ : St} (h : CanS shR NR σ) : C32 (σ 0 13) := h.f32 kR_0 sR_0 rfl
theorem uR_0_13 {σ : St} {v : Int} (h : CanS shR NR σ) (hv : C32 v) : CanS shR NR (upS σ 0 13 v) := h.uf kR_0 sR_0 rfl hv
theorem fR_0_15 {σ : St} (h : CanS shR NR σ) : C32 (σ 0 15) := h.f32 kR_0 sR_0 rfl
theorem uR_0_15 {σ : St} {v : Int} (h : CanS shR NR σ) (hv : C32 v) : CanS shR NR (upS σ 0 15 v) := h.uf kR_0 sR_0 rfl hv
theorem fR_0_17 {σ : St} (h : CanS shR NR σ) : C32 (σ 0 17) := h.f32 kR_0 sR_0 rfl
theorem uR_0_17 {σ : St} {v : Int} (h : CanS shR NR σ) (hv : C32 v) : CanS shR NR (upS σ 0 17 v) := h.uf kR_0 sR_0 rfl hv
theorem fR_0_19 {σ : St} (h : CanS shR NR σ) : C32 (σ 0 19) := h.f32 kR_0 sR_0 rfl
theorem uR_0_19 {σ : St} {v : Int} (h : CanS shR NR σ) (hv : C32 v) : CanS shR NR (upS σ 0 19 v) := h.uf kR_0 sR_0 rfl hv
theorem fR_0_20 {σ : St} (h : CanS shR NR σ) : C32 (σ 0 20) := h.f32 kR_0 sR_0 rfl
theorem uR_0_20 {σ : St} {v : Int} (h : CanS shR NR σ) (hv : C32 v) : CanS shR NR (upS σ 0 20 v) := h.uf kR_0 sR_0 rfl hv
theorem fR_0_21 {σ : St} (h : CanS shR NR σ) : C32 (σ 0 21) := h.f32 kR_0 sR_0 rfl
theorem uR_0_21 {σ : St} {v : Int} (h : CanS shR NR σ) (hv : C32 v) : CanS shR NR (upS σ 0 21 v) := h.uf kR_0 sR_0 rfl hv
theorem fR_0_22 {σ : St} (h : CanS shR NR σ) : C32 (σ 0 22) := h.f32 kR_0 sR_0 rfl
theorem uR_0_22 {σ : St} {v : Int} (h : CanS shR NR σ) (hv : C32 v) : CanS shR NR (upS σ 0 22 v) := h.uf kR_0 sR_0 rfl hv
theorem fR_0_23 {σ : St} (h : CanS shR NR σ) : C32 (σ 0 23) := h.f32 kR_0 sR_0 rfl
theorem uR_0_23 {σ : St} {v : Int} (h : CanS shR NR σ) (hv : C32 v) : CanS shR NR (upS σ 0 23 v) := h.uf kR_0 sR_0 rfl hv
theorem fR_0_24 {σ : St} (h : CanS shR NR σ) : C32 (σ 0 24) := h.f32 kR_0 sR_0 rfl
theorem uR_0_24 {σ : St} {v : Int} (h : CanS shR NR σ) (hv : C32 v) : CanS shR NR (upS σ 0 24 v) := h.uf kR_0 sR_0 rfl hv
theorem fR_0_25 {σ : St} (h : CanS shR NR σ) : C32 (σ 0 25) := h.f32 kR_0 sR_0 rfl
theorem uR_0_25 {σ : St} {v : Int} (h : CanS shR NR σ) (hv : C32 v) : CanS shR NR (upS σ 0 25 v) := h.uf kR_0 sR_0 rfl hv
theorem fR_0_27 {σ : St} (h : CanS shR NR σ) : C32 (σ 0 27) := h.f32 kR_0 sR_0 rfl
theorem uR_0_27 {σ : St} {v : Int} (h : CanS shR NR σ) (hv : C32 v) : CanS shR NR (upS σ 0 27 v) := h.uf kR_0 sR_0 rfl hv
theorem fR_0_28 {σ : St} (h : CanS shR NR σ) : C64 (σ 0 28) := h.f64 kR_0 sR_0 rfl
theorem uR_0_28 {σ : St} {v : Int} (h : CanS shR NR σ) (hv : C64 v) : CanS shR NR (upS σ 0 28 v) := h.ufl kR_0 sR_0 rfl hv
theorem fR_0_36 {σ : St} (h : CanS shR NR σ) : C64 (σ 0 36) := h.f64 kR_0 sR_0 rfl
theorem uR_0_36 {σ : St} {v : Int} (h : CanS shR NR σ) (hv : C64 v) : CanS shR NR (upS σ 0 36 v) := h.ufl kR_0 sR_0 rfl hv
theorem fR_0_41 {σ : St} (h : CanS shR NR σ) : C32 (σ 0 41) := h.f32 kR_0 sR_0 rfl
theorem uR_0_41 {σ : St} {v : Int} (h : CanS shR NR σ) (hv : C32 v) : CanS shR NR (upS σ 0 41 v) := h.uf kR_0 sR_0 rfl hv
theorem fR_0_44 {σ : St} (h : CanS shR NR σ) : C32 (σ 0 44) := h.f32 kR_0 sR_0 rfl
theorem uR_0_44 {σ : St} {v : Int} (h : CanS shR NR σ) (hv : C32 v) : CanS shR NR (upS σ 0 44 v) := h.uf kR_0 sR_0 rfl hv
theorem fR_0_54 {σ : St} (h : CanS shR NR σ) : C32 (σ 0 54) := h.f32 kR_0 sR_0 rfl
theorem uR_0_54 {σ : St} {v : Int} (h : CanS shR NR σ) (hv : C32 v) : CanS shR NR (upS σ 0 54 v) := h.uf kR_0 sR_0 rfl hv
theorem fR_0_55 {σ : St} (h : CanS shR NR σ) : C32 (σ 0 55) := h.f32 kR_0 sR_0 rfl
theorem uR_0_55 {σ : St} {v : Int} (h : CanS shR NR σ) (hv : C32 v) : CanS shR NR (upS σ 0 55 v) := h.uf kR_0 sR_0 rfl hv
theorem fR_0_59 {σ : St} (h : CanS shR NR σ) : C32 (σ 0 59) := h.f32 kR_0 sR_0 rfl
theorem uR_0_59 {σ : St} {v : Int} (h : CanS shR NR σ) (hv : C32 v) : CanS shR NR (upS σ 0 59 v) := h.uf kR_0 sR_0 rfl hv
theorem fR_0_61 {σ : St} (h : CanS shR NR σ) : C32 (σ 0 61) := h.f32 kR_0 sR_0 rfl
theorem uR_0_61 {σ : St} {v : Int} (h : CanS shR NR σ) (hv : C32 v) : CanS shR NR (upS σ 0 61 v) := h.uf kR_0 sR_0 rfl hv
theorem fR_0_63 {σ : St} (h : CanS shR NR σ) : C32 (σ 0 63) := h.f32 kR_0 sR_0 rfl
theorem uR_0_63 {σ : St} {v : Int} (h : CanS shR NR σ) (hv : C32 v) : CanS shR NR (upS σ 0 63 v) := h.uf kR_0 sR_0 rfl hv
theorem fR_0_64 {σ : St} (h : CanS shR NR σ) : C32 (σ 0 64) := h.f32 kR_0 sR_0 rfl
theorem uR_0_64 {σ : St} {v : Int} (h : CanS shR NR σ) (hv : C32 v) : CanS shR NR (upS σ 0 64 v) := h.uf kR_0 sR_0 rfl hv
theorem fR_0_65 {σ : St} (h : CanS shR NR σ) : C32 (σ 0 65) := h.f32 kR_0 sR_0 rfl
theorem uR_0_65 {σ : St} {v : Int} (h : CanS shR NR σ) (hv : C32 v) : CanS shR NR (upS σ 0 65 v) := h.uf kR_0 sR_0 rfl hv
theorem kR_1 : 1 < NR := by decide
theorem sR_1 : shR 1 = (0, 80, []) := rfl
theorem aR_1 {σ : St} (h : CanS shR NR σ) (j : Nat) : C32 (σ 1 j) := h.i32 0 kR_1 sR_1 (by decide) j
theorem wR_1 {σ : St} {j : Nat} {v : Int} (h : CanS shR NR σ) (hv : C32 v) : CanS shR NR (upS σ 1 j v) := h.u32 0 kR_1 sR_1 (by decide) hv
theorem kR_2 : 2 < NR := by decide
theorem sR_2 : shR 2 = (0, 80, []) := rfl
theorem aR_2 {σ : St} (h : CanS shR NR σ) (j : Nat) : C32 (σ 2 j) := h.i32 0 kR_2 sR_2 (by decide) j
theorem wR_2 {σ : St} {j : Nat} {v : Int} (h : CanS shR NR σ) (hv : C32 v) : CanS shR NR (upS σ 2 j v) := h.u32 0 kR_2 sR_2 (by decide) hv
theorem kR_3 : 3 < NR := by decide
theorem sR_3 : shR 3 = (0, 80, []) := rfl
theorem aR_3 {σ : St} (h : CanS shR NR σ) (j : Nat) : C32 (σ 3 j) := h.i32 0 kR_3 sR_3 (by decide) j
theorem wR_3 {σ : St} {j : Nat} {v : Int} (h : CanS shR NR σ) (hv : C32 v) : CanS shR NR (upS σ 3 j v) := h.u32 0 kR_3 sR_3 (by decide) hv
theorem kR_4 : 4 < NR := by decide
theorem sR_4 : shR 4 = (0, 80, []) := rfl
theorem aR_4 {σ : St} (h : CanS shR NR σ) (j : Nat) : C32 (σ 4 j) := h.i32 0 kR_4 sR_4 (by decide) j
theorem wR_4 {σ : St} {j : Nat} {v : Int} (h : CanS shR NR σ) (hv : C32 v) : CanS shR NR (upS σ 4 j v) := h.u32 0 kR_4 sR_4 (by decide) hv
theorem kR_5 : 5 < NR := by decide
theorem sR_5 : shR 5 = (0, 80, []) := rfl
theorem aR_5 {σ : St} (h : CanS shR NR σ) (j : Nat) : C32 (σ 5 j) := h.i32 0 kR_5 sR_5 (by decide) j
theorem wR_5 {σ : St} {j : Nat} {v : Int} (h : CanS shR NR σ) (hv : C32 v) : CanS shR NR (upS σ 5 j v) := h.u32 0 kR_5 sR_5 (by decide) hv
theorem kR_6 : 6 < NR := by decide
theorem sR_6 : shR 6 = (0, 2, []) := rfl
theorem aR_6 {σ : St} (h : CanS shR NR σ) (j : Nat) : C32 (σ 6 j) := h.i32 0 kR_6 sR_6 (by decide) j
theorem wR_6 {σ : St} {j : Nat} {v : Int} (h : CanS shR NR σ) (hv : C32 v) : CanS shR NR (upS σ 6 j v) := h.u32 0 kR_6 sR_6 (by decide) hv
theorem kR_7 : 7 < NR := by decide
theorem sR_7 : shR 7 = (0, 2, []) := rfl
theorem aR_7 {σ : St} (h : CanS shR NR σ) (j : Nat) : C32 (σ 7 j) := h.i32 0 kR_7 sR_7 (by decide) j
theorem wR_7 {σ : St} {j : Nat} {v : Int} (h : CanS shR NR σ) (hv : C32 v) : CanS shR NR (upS σ 7 j v) := h.u32 0 kR_7 sR_7 (by decide) hv
theorem kR_8 : 8 < NR := by decide
theorem sR_8 : shR 8 = (0, 2, []) := rfl
theorem aR_8 {σ : St} (h : CanS shR NR σ) (j : Nat) : C32 (σ 8 j) := h.i32 0 kR_8 sR_8 (by decide) j
theorem wR_8 {σ : St} {j : Nat} {v : Int} (h : CanS shR NR σ) (hv : C32 v) : CanS shR NR (upS σ 8 j v) := h.u32 0 kR_8 sR_8 (by decide) hv
theorem kR_9 : 9 < NR := by decide
theorem sR_9 : shR 9 = (0, 50, []) := rfl
theorem aR_9 {σ : St} (h : CanS shR NR σ) (j : Nat) : C32 (σ 9 j) := h.i32 0 kR_9 sR_9 (by decide) j
theorem wR_9 {σ : St} {j : Nat} {v : Int} (h : CanS shR NR σ) (hv : C32 v) : CanS shR NR (upS σ 9 j v) := h.u32 0 kR_9 sR_9 (by decide) hv
theorem kR_10 : 10 < NR := by decide
theorem sR_10 : shR 10 = (0, 50, []) := rfl
theorem aR_10 {σ : St} (h : CanS shR NR σ) (j : Nat) : C32 (σ 10 j) := h.i32 0 kR_10 sR_10 (by decide) j
theorem wR_10 {σ : St} {j : Nat} {v : Int} (h : CanS shR NR σ) (hv : C32 v) : CanS shR NR (upS σ 10 j v) := h.u32 0 kR_10 sR_10 (by decide) hv
theorem kR_11 : 11 < NR := by decide
theorem sR_11 : shR 11 = (0, 8, []) := rfl
theorem aR_11 {σ : St} (h : CanS shR NR σ) (j : Nat) : C32 (σ 11 j) := h.i32 0 kR_11 sR_11 (by decide) j
theorem wR_11 {σ : St} {j : Nat} {v : Int} (h : CanS shR NR σ) (hv : C32 v) : CanS shR NR (upS σ 11 j v) := h.u32 0 kR_11 sR_11 (by decide) hv
theorem kR_12 : 12 < NR := by decide
theorem sR_12 : shR 12 = (2, 1000, []) := rfl
theorem aR_12 {σ : St} (h : CanS shR NR σ) (j : Nat) : C32 (σ 12 j) := h.i32 2 kR_12 sR_12 (by decide) j
theorem wR_12 {σ : St} {j : Nat} {v : Int} (h : CanS shR NR σ) (hv : C32 v) : CanS shR NR (upS σ 12 j v) := h.u32 2 kR_12 sR_12 (by decide) hv
theorem kR_13 : 13 < NR := by decide
theorem sR_13 : shR 13 = (0, 5, []) := rfl
theorem aR_13 {σ : St} (h : CanS shR NR σ) (j : Nat) : C32 (σ 13 j) := h.i32 0 kR_13 sR_13 (by decide) j
theorem wR_13 {σ : St} {j : Nat} {v : Int} (h : CanS shR NR σ) (hv : C32 v) : CanS shR NR (upS σ 13 j v) := h.u32 0 kR_13 sR_13 (by decide) hv
theorem kR_14 : 14 < NR := by decide
theorem sR_14 : shR 14 = (0, 8, []) := rfl
theorem aR_14 {σ : St} (h : CanS shR NR σ) (j : Nat) : C32 (σ 14 j) := h.i32 0 kR_14 sR_14 (by decide) j
theorem wR_14 {σ : St} {j : Nat} {v : Int} (h : CanS shR NR σ) (hv : C32 v) : CanS shR NR (upS σ 14 j v) := h.u32 0 kR_14 sR_14 (by decide) hv
theorem kR_15 : 15 < NR := by decide
theorem sR_15 : shR 15 = (0, 768, []) := rfl
theorem aR_15 {σ : St} (h : CanS shR NR σ) (j : Nat) : C32 (σ 15 j) := h.i32 0 kR_15 sR_15 (by decide) j
theorem wR_15 {σ : St} {j : Nat} {v : Int} (h : CanS shR NR σ) (hv : C32 v) : CanS shR NR (upS σ 15 j v) := h.u32 0 kR_15 sR_15 (by decide) hv
theorem kR_16 : 16 < NR := by decide
theorem sR_16 : shR 16 = (3, 768, []) := rfl
theorem aR_16 {σ : St} (h : CanS shR NR σ) (j : Nat) : C32 (σ 16 j) := h.i32 3 kR_16 sR_16 (by decide) j
theorem wR_16 {σ : St} {j : Nat} {v : Int} (h : CanS shR NR σ) (hv : C32 v) : CanS shR NR (upS σ 16 j v) := h.u32 3 kR_16 sR_16 (by decide) hv
theorem kR_17 : 17 < NR := by decide
theorem sR_17 : shR 17 = (3, 768, []) := rfl
theorem aR_17 {σ : St} (h : CanS shR NR σ) (j : Nat) : C32 (σ 17 j) := h.i32 3 kR_17 sR_17 (by decide) j
theorem wR_17 {σ : St} {j : Nat} {v : Int} (h : CanS shR NR σ) (hv : C32 v) : CanS shR NR (upS σ 17 j v) := h.u32 3 kR_17 sR_17 (by decide) hv
theorem kR_18 : 18 < NR := by decide
theorem sR_18 : shR 18 = (1, 768, []) := rfl
theorem aR_18 {σ : St} (h : CanS shR NR σ) (j : Nat) : C64 (σ 18 j) := h.i64 kR_18 sR_18 j
theorem wR_18 {σ : St} {j : Nat} {v : Int} (h : CanS shR NR σ) (hv : C64 v) : CanS shR NR (upS σ 18 j v) := h.u64 kR_18 sR_18 hv
theorem kR_19 : 19 < NR := by decide
theorem sR_19 : shR 19 = (0, 12, []) := rfl
theorem aR_19 {σ : St} (h : CanS shR NR σ) (j : Nat) : C32 (σ 19 j) := h.i32 0 kR_19 sR_19 (by decide) j
theorem wR_19 {σ : St} {j : Nat} {v : Int} (h : CanS shR NR σ) (hv : C32 v) : CanS shR NR (upS σ 19 j v) := h.u32 0 kR_19 sR_19 (by decide) hv
theorem kR_20 : 20 < NR := by decide
theorem sR_20 : shR 20 = (0, 768, []) := rfl
theorem aR_20 {σ : St} (h : CanS shR NR σ) (j : Nat) : C32 (σ 20 j) := h.i32 0 kR_20 sR_20 (by decide) j
theorem wR_20 {σ : St} {j : Nat} {v : Int} (h : CanS shR NR σ) (hv : C32 v) : CanS shR NR (upS σ 20 j v) := h.u32 0 kR_20 sR_20 (by decide) hv
theorem kR_21 : 21 < NR := by decide
theorem sR_21 : shR 21 = (3, 768, []) := rfl
theorem aR_21 {σ : St} (h : CanS shR NR σ) (j : Nat) : C32 (σ 21 j) := h.i32 3 kR_21 sR_21 (by decide) j
theorem wR_21 {σ : St} {j : Nat} {v : Int} (h : CanS shR NR σ) (hv : C32 v) : CanS shR NR (upS σ 21 j v) := h.u32 3 kR_21 sR_21 (by decide) hv
theorem kR_22 : 22 < NR := by decide
theorem sR_22 : shR 22 = (1, 768, []) := rfl
theorem aR_22 {σ : St} (h : CanS shR NR σ) (j : Nat) : C64 (σ 22 j) := h.i64 kR_22 sR_22 j
theorem wR_22 {σ : St} {j : Nat} {v : Int} (h : CanS shR NR σ) (hv : C64 v) : CanS shR NR (upS σ 22 j v) := h.u64 kR_22 sR_22 hv
theorem kR_23 : 23 < NR := by decide
theorem sR_23 : shR 23 = (3, 64, []) := rfl
theorem aR_23 {σ : St} (h : CanS shR NR σ) (j : Nat) : C32 (σ 23 j) := h.i32 3 kR_23 sR_23 (by decide) j
theorem wR_23 {σ : St} {j : Nat} {v : Int} (h : CanS shR NR σ) (hv : C32 v) : CanS shR NR (upS σ 23 j v) := h.u32 3 kR_23 sR_23 (by decide) hv
theorem kR_24 : 24 < NR := by decide
theorem sR_24 : shR 24 = (1, 156, []) := rfl
theorem aR_24 {σ : St} (h : CanS shR NR σ) (j : Nat) : C64 (σ 24 j) := h.i64 kR_24 sR_24 j
theorem wR_24 {σ : St} {j : Nat} {v : Int} (h : CanS shR NR σ) (hv : C64 v) : CanS shR NR (upS σ 24 j v) := h.u64 kR_24 sR_24 hv
theorem kR_25 : 25 < NR := by decide
theorem sR_25 : shR 25 = (0, 12, []) := rfl
theorem aR_25 {σ : St} (h : CanS shR NR σ) (j : Nat) : C32 (σ 25 j) := h.i32 0 kR_25 sR_25 (by decide) j
theorem wR_25 {σ : St} {j : Nat} {v : Int} (h : CanS shR NR σ) (hv : C32 v) : CanS shR NR (upS σ 25 j v) := h.u32 0 kR_25 sR_25 (by decide) hv
theorem kR_26 : 26 < NR := by decide
theorem sR_26 : shR 26 = (0, 768, []) := rfl
theorem aR_26 {σ : St} (h : CanS shR NR σ) (j : Nat) : C32 (σ 26 j) := h.i32 0 kR_26 sR_26 (by decide) j
theorem wR_26 {σ : St} {j : Nat} {v : Int} (h : CanS shR NR σ) (hv : C32 v) : CanS shR NR (upS σ 26 j v) := h.u32 0 kR_26 sR_26 (by decide) hv
theorem kR_27 : 27 < NR := by decide
theorem sR_27 : shR 27 = (0, 768, []) := rfl
theorem aR_27 {σ : St} (h : CanS shR NR σ) (j : Nat) : C32 (σ 27 j) := h.i32 0 kR_27 sR_27 (by decide) j
theorem wR_27 {σ : St} {j : Nat} {v : Int} (h : CanS shR NR σ) (hv : C32 v) : CanS shR NR (upS σ 27 j v) := h.u32 0 kR_27 sR_27 (by decide) hv
theorem kR_28 : 28 < NR := by decide
theorem sR_28 : shR 28 = (0, 40000, []) := rfl
theorem aR_28 {σ : St} (h : CanS shR NR σ) (j : Nat) : C32 (σ 28 j) := h.i32 0 kR_28 sR_28 (by decide) j
theorem wR_28 {σ : St} {j : Nat} {v : Int} (h : CanS shR NR σ) (hv : C32 v) : CanS shR NR (upS σ 28 j v) := h.u32 0 kR_28 sR_28 (by decide) hv
theorem kR_29 : 29 < NR := by decide
theorem sR_29 : shR 29 = (0, 40000, []) := rfl
theorem aR_29 {σ : St} (h : CanS shR NR σ) (j : Nat) : C32 (σ 29 j) := h.i32 0 kR_29 sR_29 (by decide) j
theorem wR_29 {σ : St} {j : Nat} {v : Int} (h : CanS shR NR σ) (hv : C32 v) : CanS shR NR (upS σ 29 j v) := h.u32 0 kR_29 sR_29 (by decide) hv
theorem kR_30 : 30 < NR := by decide
theorem sR_30 : shR 30 = (0, 40000, []) := rfl
theorem aR_30 {σ : St} (h : CanS shR NR σ) (j : Nat) : C32 (σ 30 j) := h.i32 0 kR_30 sR_30 (by decide) j
theorem wR_30 {σ : St} {j : Nat} {v : Int} (h : CanS shR NR σ) (hv : C32 v) : CanS shR NR (upS σ 30 j v) := h.u32 0 kR_30 sR_30 (by decide) hv
theorem kR_31 : 31 < NR := by decide
theorem sR_31 : shR 31 = (0, 40000, []) := rfl
theorem aR_31 {σ : St} (h : CanS shR NR σ) (j : Nat) : C32 (σ 31 j) := h.i32 0 kR_31 sR_31 (by decide) j
theorem wR_31 {σ : St} {j : Nat} {v : Int} (h : CanS shR NR σ) (hv : C32 v) : CanS shR NR (upS σ 31 j v) := h.u32 0 kR_31 sR_31 (by decide) hv
theorem kR_32 : 32 < NR := by decide
theorem sR_32 : shR 32 = (0, 40000, []) := rfl
theorem aR_32 {σ : St} (h : CanS shR NR σ) (j : Nat) : C32 (σ 32 j) := h.i32 0 kR_32 sR_32 (by decide) j
theorem wR_32 {σ : St} {j : Nat} {v : Int} (h : CanS shR NR σ) (hv : C32 v) : CanS shR NR (upS σ 32 j v) := h.u32 0 kR_32 sR_32 (by decide) hv
theorem kR_33 : 33 < NR := by decide
theorem sR_33 : shR 33 = (0, 40000, []) := rfl
theorem aR_33 {σ : St} (h : CanS shR NR σ) (j : Nat) : C32 (σ 33 j) := h.i32 0 kR_33 sR_33 (by decide) j
theorem wR_33 {σ : St} {j : Nat} {v : Int} (h : CanS shR NR σ) (hv : C32 v) : CanS shR NR (upS σ 33 j v) := h.u32 0 kR_33 sR_33 (by decide) hv
theorem kR_34 : 34 < NR := by decide
theorem sR_34 : shR 34 = (0, 40000, []) := rfl
theorem aR_34 {σ : St} (h : CanS shR NR σ) (j : Nat) : C32 (σ 34 j) := h.i32 0 kR_34 sR_34 (by decide) j
theorem wR_34 {σ : St} {j : Nat} {v : Int} (h : CanS shR NR σ) (hv : C32 v) : CanS shR NR (upS σ 34 j v) := h.u32 0 kR_34 sR_34 (by decide) hv
theorem kR_35 : 35 < NR := by decide
theorem sR_35 : shR 35 = (0, 40000, []) := rfl
theorem aR_35 {σ : St} (h : CanS shR NR σ) (j : Nat) : C32 (σ 35 j) := h.i32 0 kR_35 sR_35 (by decide) j
theorem wR_35 {σ : St} {j : Nat} {v : Int} (h : CanS shR NR σ) (hv : C32 v) : CanS shR NR (upS σ 35 j v) := h.u32 0 kR_35 sR_35 (by decide) hv
theorem kR_36 : 36 < NR := by decide
theorem sR_36 : shR 36 = (0, 40000, []) := rfl
theorem aR_36 {σ : St} (h : CanS shR NR σ) (j : Nat) : C32 (σ 36 j) := h.i32 0 kR_36 sR_36 (by decide) j
theorem wR_36 {σ : St} {j : Nat} {v : Int} (h : CanS shR NR σ) (hv : C32 v) : CanS shR NR (upS σ 36 j v) := h.u32 0 kR_36 sR_36 (by decide) hv
theorem kR_37 : 37 < NR := by decide
theorem sR_37 : shR 37 = (0, 12288, []) := rfl
theorem aR_37 {σ : St} (h : CanS shR NR σ) (j : Nat) : C32 (σ 37 j) := h.i32 0 kR_37 sR_37 (by decide) j
theorem wR_37 {σ : St} {j : Nat} {v : Int} (h : CanS shR NR σ) (hv : C32 v) : CanS shR NR (upS σ 37 j v) := h.u32 0 kR_37 sR_37 (by decide) hv
theorem kR_38 : 38 < NR := by decide
theorem sR_38 : shR 38 = (0, 768, []) := rfl
theorem aR_38 {σ : St} (h : CanS shR NR σ) (j : Nat) : C32 (σ 38 j) := h.i32 0 kR_38 sR_38 (by decide) j
theorem wR_38 {σ : St} {j : Nat} {v : Int} (h : CanS shR NR σ) (hv : C32 v) : CanS shR NR (upS σ 38 j v) := h.u32 0 kR_38 sR_38 (by decide) hv
theorem kR_39 : 39 < NR := by decide
theorem sR_39 : shR 39 = (0, 1000, []) := rfl
theorem aR_39 {σ : St} (h : CanS shR NR σ) (j : Nat) : C32 (σ 39 j) := h.i32 0 kR_39 sR_39 (by decide) j
theorem wR_39 {σ : St} {j : Nat} {v : Int} (h : CanS shR NR σ) (hv : C32 v) : CanS shR NR (upS σ 39 j v) := h.u32 0 kR_39 sR_39 (by decide) hv
theorem kR_40 : 40 < NR := by decide
theorem sR_40 : shR 40 = (2, 20000, []) := rfl
theorem aR_40 {σ : St} (h : CanS shR NR σ) (j : Nat) : C32 (σ 40 j) := h.i32 2 kR_40 sR_40 (by decide) j
theorem wR_40 {σ : St} {j : Nat} {v : Int} (h : CanS shR NR σ) (hv : C32 v) : CanS shR NR (upS σ 40 j v) := h.u32 2 kR_40 sR_40 (by decide) hv
theorem kR_41 : 41 < NR := by decide
theorem sR_41 : shR 41 = (1, 231168, []) := rfl
theorem aR_41 {σ : St} (h : CanS shR NR σ) (j : Nat) : C64 (σ 41 j) := h.i64 kR_41 sR_41 j
theorem wR_41 {σ : St} {j : Nat} {v : Int} (h : CanS shR NR σ) (hv : C64 v) : CanS shR NR (upS σ 41 j v) := h.u64 kR_41 sR_41 hv
theorem cl_m41 : C32 (-41) := by unfold C32; omega
theorem cl_m32 : C32 (-32) := by unfold C32; omega
theorem cl_m6 : C32 (-6) := by unfold C32; omega
theorem cl_m4 : C32 (-4) := by unfold C32; omega
theorem cl_m2 : C32 (-2) := by unfold C32; omega
theorem cl_m1 : C32 (-1) := by unfold C32; omega
theorem cl_0 : C32 0 := by unfold C32; omega
theorem cl_1 : C32 1 := by unfold C32; omega
theorem cl_2 : C32 2 := by unfold C32; omega
theorem cl_3 : C32 3 := by unfold C32; omega
theorem cl_4 : C32 4 := by unfold C32; omega
theorem cl_5 : C32 5 := by unfold C32; omega
theorem cl_6 : C32 6 := by unfold C32; omega
theorem cl_7 : C32 7 := by unfold C32; omega
theorem cl_8 : C32 8 := by unfold C32; omega
theorem cl_9 : C32 9 := by unfold C32; omega
theorem cl_10 : C32 10 := by unfold C32; omega
theorem cl_12 : C32 12 := by unfold C32; omega
theorem cl_13 : C32 13 := by unfold C32; omega
theorem cl_14 : C32 14 := by unfold C32; omega
theorem cl_15 : C32 15 := by unfold C32; omega
theorem cl_16 : C32 16 := by unfold C32; omega
theorem cl_20 : C32 20 := by unfold C32; omega
theorem cl_24 : C32 24 := by unfold C32; omega
theorem cl_25 : C32 25 := by unfold C32; omega
theorem cl_26 : C32 26 := by unfold C32; omega
theorem cl_32 : C32 32 := by unfold C32; omega
theorem cl_36 : C32 36 := by unfold C32; omega
theorem cl_40 : C32 40 := by unfold C32; omega
theorem cl_41 : C32 41 := by unfold C32; omega
theorem cl_48 : C32 48 := by unfold C32; omega
theorem cl_57 : C32 57 := by unfold C32; omega
theorem cl_59 : C32 59 := by unfold C32; omega
theorem cl_61 : C32 61 := by unfold C32; omega
theorem cl_65 : C32 65 := by unfold C32; omega
theorem cl_77 : C32 77 := by unfold C32; omega
theorem cl_97 : C32 97 := by unfold C32; omega
theorem cl_99 : C32 99 := by unfold C32; omega
theorem cl_100 : C32 100 := by unfold C32; omega
theorem cl_122 : C32 122 := by unfold C32; omega
theorem cl_127 : C32 127 := by unfold C32; omega
theorem cl_156 : C32 156 := by unfold C32; omega
theorem cl_192 : C32 192 := by unfold C32; omega
theorem cl_208 : C32 208 := by unfold C32; omega
theorem cl_255 : C32 255 := by unfold C32; omega
theorem cl_300 : C32 300 := by unfold C32; omega
theorem cl_301 : C32 301 := by unfold C32; omega
theorem cl_432 : C32 432 := by unfold C32; omega
theorem cl_511 : C32 511 := by unfold C32; omega
theorem cl_512 : C32 512 := by unfold C32; omega
theorem cl_768 : C32 768 := by unfold C32; omega
theorem cl_1000 : C32 1000 := by unfold C32; omega
theorem cl_2048 : C32 2048 := by unfold C32; omega
theorem cl_2560 : C32 2560 := by unfold C32; omega
theorem cl_3360 : C32 3360 := by unfold C32; omega
theorem cl_9971 : C32 9971 := by unfold C32; omega
theorem cl_9973 : C32 9973 := by unfold C32; omega
theorem cl_9999 : C32 9999 := by unfold C32; omega
theorem cl_10000 : C32 10000 := by unfold C32; omega
theorem cl_1000000000 : C32 1000000000 := by unfold C32; omega
theorem cL_m5 : C64 (-5) := by unfold C64; omega
theorem cL_m3 : C64 (-3) := by unfold C64; omega
theorem cL_m2 : C64 (-2) := by unfold C64; omega
theorem cL_m1 : C64 (-1) := by unfold C64; omega
theorem cL_0 : C64 0 := by unfold C64; omega
theorem cL_1 : C64 1 := by unfold C64; omega
theorem cL_2 : C64 2 := by unfold C64; omega
theorem cL_3 : C64 3 := by unfold C64; omega
theorem cL_11 : C64 11 := by unfold C64; omega
theorem cL_15 : C64 15 := by unfold C64; omega
theorem cL_16 : C64 16 := by unfold C64; omega
theorem cL_48 : C64 48 := by unfold C64; omega
theorem cL_57 : C64 57 := by unfold C64; omega
theorem cL_65 : C64 65 := by unfold C64; omega
theorem cL_76 : C64 76 := by unfold C64; omega
theorem cL_97 : C64 97 := by unfold C64; omega
theorem cL_99 : C64 99 := by unfold C64; omega
theorem cL_122 : C64 122 := by unfold C64; omega
theorem cL_300 : C64 300 := by unfold C64; omega
theorem cL_9973 : C64 9973 := by unfold C64; omega
theorem cL_2147483648 : C64 2147483648 := by unfold C64; omega
theorem cL_1000000000000000 : C64 1000000000000000 := by unfold C64; omega
theorem cL_1000000000000001 : C64 1000000000000001 := by unfold C64; omega
theorem cL_1085102592571150095 : C64 1085102592571150095 := by unfold C64; omega
theorem cL_3689348814741910323 : C64 3689348814741910323 := by unfold C64; omega
theorem cL_6148914691236517205 : C64 6148914691236517205 := by unfold C64; omega
theorem cL_9223372036854775807 : C64 9223372036854775807 := by unfold C64; omega
theorem lay_0 : ∀ k, k < 18 → u_lay RX0 TX0 k ∈ gtbl := fun k hk => match k, hk with
  | 0, _ => tg (tb_1 (List.mem_of_getElem? (i := 239) rfl)) rfl
  | 1, _ => tg (tb_2 (List.mem_of_getElem? (i := 1) rfl)) rfl
  | 2, _ => tg (tb_2 (List.mem_of_getElem? (i := 3) rfl)) rfl
  | 3, _ => tg (tb_2 (List.mem_of_getElem? (i := 5) rfl)) rfl
  | 4, _ => tg (tb_2 (List.mem_of_getElem? (i := 7) rfl)) rfl
  | 5, _ => tg (tb_2 (List.mem_of_getElem? (i := 9) rfl)) rfl
  | 6, _ => tg (tb_2 (List.mem_of_getElem? (i := 11) rfl)) rfl
  | 7, _ => tg (tb_2 (List.mem_of_getElem? (i := 13) rfl)) rfl
  | 8, _ => tg (tb_2 (List.mem_of_getElem? (i := 15) rfl)) rfl
  | 9, _ => tg (tb_2 (List.mem_of_getElem? (i := 17) rfl)) rfl
  | 10, _ => tg (tb_2 (List.mem_of_getElem? (i := 19) rfl)) rfl
  | 11, _ => tg (tb_2 (List.mem_of_getElem? (i := 21) rfl)) rfl
  | 12, _ => tg (tb_2 (List.mem_of_getElem? (i := 23) rfl)) rfl
  | 13, _ => tg (tb_2 (List.mem_of_getElem? (i := 25) rfl)) rfl
  | 14, _ => tg (tb_2 (List.mem_of_getElem? (i := 27) rfl)) rfl
  | 15, _ => tg (tb_2 (List.mem_of_getElem? (i := 29) rfl)) rfl
  | 16, _ => tg (tb_2 (List.mem_of_getElem? (i := 31) rfl)) rfl
  | 17, _ => tg (tb_2 (List.mem_of_getElem? (i := 33) rfl)) rfl
  | k + 18, hk => absurd hk (by omega)
theorem cls_0 : ClsOk 0 RX0 TX0 18 tyX0 := ⟨rfl, fun w hw => by obtain ⟨k, hk, rfl⟩ := List.mem_map.mp hw; exact lay_0 k (List.mem_range.mp hk), tyX0_ok, nmX0⟩
theorem lay_1 : ∀ k, k < 10 → u_lay RX1 TX1 k ∈ gtbl := fun k hk => match k, hk with
  | 0, _ => tg (tb_2 (List.mem_of_getElem? (i := 54) rfl)) rfl
  | 1, _ => tg (tb_2 (List.mem_of_getElem? (i := 56) rfl)) rfl
  | 2, _ => tg (tb_2 (List.mem_of_getElem? (i := 58) rfl)) rfl
  | 3, _ => tg (tb_2 (List.mem_of_getElem? (i := 60) rfl)) rfl
  | 4, _ => tg (tb_2 (List.mem_of_getElem? (i := 62) rfl)) rfl
  | 5, _ => tg (tb_2 (List.mem_of_getElem? (i := 64) rfl)) rfl
  | 6, _ => tg (tb_2 (List.mem_of_getElem? (i := 66) rfl)) rfl
  | 7, _ => tg (tb_2 (List.mem_of_getElem? (i := 68) rfl)) rfl
  | 8, _ => tg (tb_2 (List.mem_of_getElem? (i := 70) rfl)) rfl
  | 9, _ => tg (tb_2 (List.mem_of_getElem? (i := 72) rfl)) rfl
  | k + 10, hk => absurd hk (by omega)
theorem cls_1 : ClsOk 1 RX1 TX1 10 tyX1 := ⟨rfl, fun w hw => by obtain ⟨k, hk, rfl⟩ := List.mem_map.mp hw; exact lay_1 k (List.mem_range.mp hk), tyX1_ok, nmX1⟩
theorem lay_2 : ∀ k, k < 9 → u_lay RX2 TX2 k ∈ gtbl := fun k hk => match k, hk with
  | 0, _ => tg (tb_2 (List.mem_of_getElem? (i := 90) rfl)) rfl
  | 1, _ => tg (tb_2 (List.mem_of_getElem? (i := 92) rfl)) rfl
  | 2, _ => tg (tb_2 (List.mem_of_getElem? (i := 94) rfl)) rfl
  | 3, _ => tg (tb_2 (List.mem_of_getElem? (i := 96) rfl)) rfl
  | 4, _ => tg (tb_2 (List.mem_of_getElem? (i := 98) rfl)) rfl
  | 5, _ => tg (tb_2 (List.mem_of_getElem? (i := 100) rfl)) rfl
  | 6, _ => tg (tb_2 (List.mem_of_getElem? (i := 102) rfl)) rfl
  | 7, _ => tg (tb_2 (List.mem_of_getElem? (i := 104) rfl)) rfl
  | 8, _ => tg (tb_2 (List.mem_of_getElem? (i := 106) rfl)) rfl
  | k + 9, hk => absurd hk (by omega)
theorem cls_2 : ClsOk 2 RX2 TX2 9 tyX2 := ⟨rfl, fun w hw => by obtain ⟨k, hk, rfl⟩ := List.mem_map.mp hw; exact lay_2 k (List.mem_range.mp hk), tyX2_ok, nmX2⟩
theorem lay_3 : ∀ k, k < 18 → u_lay RX3 TX3 k ∈ gtbl := fun k hk => match k, hk with
  | 0, _ => tg (tb_2 (List.mem_of_getElem? (i := 195) rfl)) rfl
  | 1, _ => tg (tb_2 (List.mem_of_getElem? (i := 197) rfl)) rfl
  | 2, _ => tg (tb_2 (List.mem_of_getElem? (i := 199) rfl)) rfl
  | 3, _ => tg (tb_2 (List.mem_of_getElem? (i := 201) rfl)) rfl
  | 4, _ => tg (tb_2 (List.mem_of_getElem? (i := 203) rfl)) rfl
  | 5, _ => tg (tb_2 (List.mem_of_getElem? (i := 205) rfl)) rfl
  | 6, _ => tg (tb_2 (List.mem_of_getElem? (i := 207) rfl)) rfl
  | 7, _ => tg (tb_2 (List.mem_of_getElem? (i := 209) rfl)) rfl
  | 8, _ => tg (tb_2 (List.mem_of_getElem? (i := 211) rfl)) rfl
  | 9, _ => tg (tb_2 (List.mem_of_getElem? (i := 213) rfl)) rfl
  | 10, _ => tg (tb_2 (List.mem_of_getElem? (i := 215) rfl)) rfl
  | 11, _ => tg (tb_2 (List.mem_of_getElem? (i := 217) rfl)) rfl
  | 12, _ => tg (tb_2 (List.mem_of_getElem? (i := 219) rfl)) rfl
  | 13, _ => tg (tb_2 (List.mem_of_getElem? (i := 221) rfl)) rfl
  | 14, _ => tg (tb_2 (List.mem_of_getElem? (i := 223) rfl)) rfl
  | 15, _ => tg (tb_2 (List.mem_of_getElem? (i := 225) rfl)) rfl
  | 16, _ => tg (tb_2 (List.mem_of_getElem? (i := 227) rfl)) rfl
  | 17, _ => tg (tb_2 (List.mem_of_getElem? (i := 229) rfl)) rfl
  | k + 18, hk => absurd hk (by omega)
theorem cls_3 : ClsOk 3 RX3 TX3 18 tyX3 := ⟨rfl, fun w hw => by obtain ⟨k, hk, rfl⟩ := List.mem_map.mp hw; exact lay_3 k (List.mem_range.mp hk), tyX3_ok, nmX3⟩
theorem lay_4 : ∀ k, k < 13 → u_lay RX4 TX4 k ∈ gtbl := fun k hk => match k, hk with
  | 0, _ => tg (tb_1 (List.mem_of_getElem? (i := 110) rfl)) rfl
  | 1, _ => tg (tb_1 (List.mem_of_getElem? (i := 112) rfl)) rfl
  | 2, _ => tg (tb_1 (List.mem_of_getElem? (i := 114) rfl)) rfl
  | 3, _ => tg (tb_1 (List.mem_of_getElem? (i := 116) rfl)) rfl
  | 4, _ => tg (tb_1 (List.mem_of_getElem? (i := 118) rfl)) rfl
  | 5, _ => tg (tb_1 (List.mem_of_getElem? (i := 120) rfl)) rfl
  | 6, _ => tg (tb_1 (List.mem_of_getElem? (i := 122) rfl)) rfl
  | 7, _ => tg (tb_1 (List.mem_of_getElem? (i := 124) rfl)) rfl
  | 8, _ => tg (tb_1 (List.mem_of_getElem? (i := 126) rfl)) rfl
  | 9, _ => tg (tb_1 (List.mem_of_getElem? (i := 128) rfl)) rfl
  | 10, _ => tg (tb_1 (List.mem_of_getElem? (i := 130) rfl)) rfl
  | 11, _ => tg (tb_1 (List.mem_of_getElem? (i := 132) rfl)) rfl
  | 12, _ => tg (tb_1 (List.mem_of_getElem? (i := 134) rfl)) rfl
  | k + 13, hk => absurd hk (by omega)
theorem cls_4 : ClsOk 4 RX4 TX4 13 tyX4 := ⟨rfl, fun w hw => by obtain ⟨k, hk, rfl⟩ := List.mem_map.mp hw; exact lay_4 k (List.mem_range.mp hk), tyX4_ok, nmX4⟩
theorem lay_5 : ∀ k, k < 10 → u_lay RX5 TX5 k ∈ gtbl := fun k hk => match k, hk with
  | 0, _ => tg (tb_3 (List.mem_of_getElem? (i := 79) rfl)) rfl
  | 1, _ => tg (tb_3 (List.mem_of_getElem? (i := 81) rfl)) rfl
  | 2, _ => tg (tb_3 (List.mem_of_getElem? (i := 83) rfl)) rfl
  | 3, _ => tg (tb_3 (List.mem_of_getElem? (i := 85) rfl)) rfl
  | 4, _ => tg (tb_3 (List.mem_of_getElem? (i := 87) rfl)) rfl
  | 5, _ => tg (tb_3 (List.mem_of_getElem? (i := 89) rfl)) rfl
  | 6, _ => tg (tb_3 (List.mem_of_getElem? (i := 91) rfl)) rfl
  | 7, _ => tg (tb_3 (List.mem_of_getElem? (i := 93) rfl)) rfl
  | 8, _ => tg (tb_3 (List.mem_of_getElem? (i := 95) rfl)) rfl
  | 9, _ => tg (tb_3 (List.mem_of_getElem? (i := 97) rfl)) rfl
  | k + 10, hk => absurd hk (by omega)
theorem cls_5 : ClsOk 5 RX5 TX5 10 tyX5 := ⟨rfl, fun w hw => by obtain ⟨k, hk, rfl⟩ := List.mem_map.mp hw; exact lay_5 k (List.mem_range.mp hk), tyX5_ok, nmX5⟩
theorem lay_6 : ∀ k, k < 9 → u_lay RX6 TX6 k ∈ gtbl := fun k hk => match k, hk with
  | 0, _ => tg (tb_1 (List.mem_of_getElem? (i := 151) rfl)) rfl
  | 1, _ => tg (tb_1 (List.mem_of_getElem? (i := 153) rfl)) rfl
  | 2, _ => tg (tb_1 (List.mem_of_getElem? (i := 155) rfl)) rfl
  | 3, _ => tg (tb_1 (List.mem_of_getElem? (i := 157) rfl)) rfl
  | 4, _ => tg (tb_1 (List.mem_of_getElem? (i := 159) rfl)) rfl
  | 5, _ => tg (tb_1 (List.mem_of_getElem? (i := 161) rfl)) rfl
  | 6, _ => tg (tb_1 (List.mem_of_getElem? (i := 163) rfl)) rfl
  | 7, _ => tg (tb_1 (List.mem_of_getElem? (i := 165) rfl)) rfl
  | 8, _ => tg (tb_1 (List.mem_of_getElem? (i := 167) rfl)) rfl
  | k + 9, hk => absurd hk (by omega)
theorem cls_6 : ClsOk 6 RX6 TX6 9 tyX6 := ⟨rfl, fun w hw => by obtain ⟨k, hk, rfl⟩ := List.mem_map.mp hw; exact lay_6 k (List.mem_range.mp hk), tyX6_ok, nmX6⟩
theorem lay_7 : ∀ k, k < 8 → u_lay RX7 TX7 k ∈ gtbl := fun k hk => match k, hk with
  | 0, _ => tg (tb_2 (List.mem_of_getElem? (i := 124) rfl)) rfl
  | 1, _ => tg (tb_2 (List.mem_of_getElem? (i := 126) rfl)) rfl
  | 2, _ => tg (tb_2 (List.mem_of_getElem? (i := 128) rfl)) rfl
  | 3, _ => tg (tb_2 (List.mem_of_getElem? (i := 130) rfl)) rfl
  | 4, _ => tg (tb_2 (List.mem_of_getElem? (i := 132) rfl)) rfl
  | 5, _ => tg (tb_2 (List.mem_of_getElem? (i := 134) rfl)) rfl
  | 6, _ => tg (tb_2 (List.mem_of_getElem? (i := 136) rfl)) rfl
  | 7, _ => tg (tb_2 (List.mem_of_getElem? (i := 138) rfl)) rfl
  | k + 8, hk => absurd hk (by omega)
theorem cls_7 : ClsOk 7 RX7 TX7 8 tyX7 := ⟨rfl, fun w hw => by obtain ⟨k, hk, rfl⟩ := List.mem_map.mp hw; exact lay_7 k (List.mem_range.mp hk), tyX7_ok, nmX7⟩
theorem lay_8 : ∀ k, k < 7 → u_lay RX8 TX8 k ∈ gtbl := fun k hk => match k, hk with
  | 0, _ => tg (tb_3 (List.mem_of_getElem? (i := 44) rfl)) rfl
  | 1, _ => tg (tb_3 (List.mem_of_getElem? (i := 46) rfl)) rfl
  | 2, _ => tg (tb_3 (List.mem_of_getElem? (i := 48) rfl)) rfl
  | 3, _ => tg (tb_3 (List.mem_of_getElem? (i := 50) rfl)) rfl
  | 4, _ => tg (tb_3 (List.mem_of_getElem? (i := 52) rfl)) rfl
  | 5, _ => tg (tb_3 (List.mem_of_getElem? (i := 54) rfl)) rfl
  | 6, _ => tg (tb_3 (List.mem_of_getElem? (i := 56) rfl)) rfl
  | k + 7, hk => absurd hk (by omega)
theorem cls_8 : ClsOk 8 RX8 TX8 7 tyX8 := ⟨rfl, fun w hw => by obtain ⟨k, hk, rfl⟩ := List.mem_map.mp hw; exact lay_8 k (List.mem_range.mp hk), tyX8_ok, nmX8⟩
theorem lay_9 : ∀ k, k < 7 → u_lay RX9 TX9 k ∈ gtbl := fun k hk => match k, hk with
  | 0, _ => tg (tb_2 (List.mem_of_getElem? (i := 154) rfl)) rfl
  | 1, _ => tg (tb_2 (List.mem_of_getElem? (i := 156) rfl)) rfl
  | 2, _ => tg (tb_2 (List.mem_of_getElem? (i := 158) rfl)) rfl
  | 3, _ => tg (tb_2 (List.mem_of_getElem? (i := 160) rfl)) rfl
  | 4, _ => tg (tb_2 (List.mem_of_getElem? (i := 162) rfl)) rfl
  | 5, _ => tg (tb_2 (List.mem_of_getElem? (i := 164) rfl)) rfl
  | 6, _ => tg (tb_2 (List.mem_of_getElem? (i := 166) rfl)) rfl
  | k + 7, hk => absurd hk (by omega)
theorem cls_9 : ClsOk 9 RX9 TX9 7 tyX9 := ⟨rfl, fun w hw => by obtain ⟨k, hk, rfl⟩ := List.mem_map.mp hw; exact lay_9 k (List.mem_range.mp hk), tyX9_ok, nmX9⟩
theorem lay_10 : ∀ k, k < 10 → u_lay RX10 TX10 k ∈ gtbl := fun k hk => match k, hk with
  | 0, _ => tg (tb_3 (List.mem_of_getElem? (i := 10) rfl)) rfl
  | 1, _ => tg (tb_3 (List.mem_of_getElem? (i := 12) rfl)) rfl
  | 2, _ => tg (tb_3 (List.mem_of_getElem? (i := 14) rfl)) rfl
  | 3, _ => tg (tb_3 (List.mem_of_getElem? (i := 16) rfl)) rfl
  | 4, _ => tg (tb_3 (List.mem_of_getElem? (i := 18) rfl)) rfl
  | 5, _ => tg (tb_3 (List.mem_of_getElem? (i := 20) rfl)) rfl
  | 6, _ => tg (tb_3 (List.mem_of_getElem? (i := 22) rfl)) rfl
  | 7, _ => tg (tb_3 (List.mem_of_getElem? (i := 24) rfl)) rfl
  | 8, _ => tg (tb_3 (List.mem_of_getElem? (i := 26) rfl)) rfl
  | 9, _ => tg (tb_3 (List.mem_of_getElem? (i := 28) rfl)) rfl
  | k + 10, hk => absurd hk (by omega)
theorem cls_10 : ClsOk 10 RX10 TX10 10 tyX10 := ⟨rfl, fun w hw => by obtain ⟨k, hk, rfl⟩ := List.mem_map.mp hw; exact lay_10 k (List.mem_range.mp hk), tyX10_ok, nmX10⟩
theorem lay_11 : ∀ k, k < 16 → u_lay RX11 TX11 k ∈ gtbl := fun k hk => match k, hk with
  | 0, _ => tg (tb_3 (List.mem_of_getElem? (i := 116) rfl)) rfl
  | 1, _ => tg (tb_3 (List.mem_of_getElem? (i := 118) rfl)) rfl
  | 2, _ => tg (tb_3 (List.mem_of_getElem? (i := 120) rfl)) rfl
  | 3, _ => tg (tb_3 (List.mem_of_getElem? (i := 122) rfl)) rfl
  | 4, _ => tg (tb_3 (List.mem_of_getElem? (i := 124) rfl)) rfl
  | 5, _ => tg (tb_3 (List.mem_of_getElem? (i := 126) rfl)) rfl
  | 6, _ => tg (tb_3 (List.mem_of_getElem? (i := 128) rfl)) rfl
  | 7, _ => tg (tb_3 (List.mem_of_getElem? (i := 130) rfl)) rfl
  | 8, _ => tg (tb_3 (List.mem_of_getElem? (i := 132) rfl)) rfl
  | 9, _ => tg (tb_3 (List.mem_of_getElem? (i := 134) rfl)) rfl
  | 10, _ => tg (tb_3 (List.mem_of_getElem? (i := 136) rfl)) rfl
  | 11, _ => tg (tb_3 (List.mem_of_getElem? (i := 138) rfl)) rfl
  | 12, _ => tg (tb_3 (List.mem_of_getElem? (i := 140) rfl)) rfl
  | 13, _ => tg (tb_3 (List.mem_of_getElem? (i := 142) rfl)) rfl
  | 14, _ => tg (tb_3 (List.mem_of_getElem? (i := 144) rfl)) rfl
  | 15, _ => tg (tb_3 (List.mem_of_getElem? (i := 146) rfl)) rfl
  | k + 16, hk => absurd hk (by omega)
theorem cls_11 : ClsOk 11 RX11 TX11 16 tyX11 := ⟨rfl, fun w hw => by obtain ⟨k, hk, rfl⟩ := List.mem_map.mp hw; exact lay_11 k (List.mem_range.mp hk), tyX11_ok, nmX11⟩
theorem lay_12 : ∀ k, k < 66 → u_lay RX12 TX12 k ∈ gtbl := fun k hk => match k, hk with
  | 0, _ => tg (tb_7 (List.mem_of_getElem? (i := 133) rfl)) rfl
  | 1, _ => tg (tb_7 (List.mem_of_getElem? (i := 135) rfl)) rfl
  | 2, _ => tg (tb_7 (List.mem_of_getElem? (i := 137) rfl)) rfl
  | 3, _ => tg (tb_7 (List.mem_of_getElem? (i := 139) rfl)) rfl
  | 4, _ => tg (tb_7 (List.mem_of_getElem? (i := 141) rfl)) rfl
  | 5, _ => tg (tb_7 (List.mem_of_getElem? (i := 143) rfl)) rfl
  | 6, _ => tg (tb_7 (List.mem_of_getElem? (i := 145) rfl)) rfl
  | 7, _ => tg (tb_7 (List.mem_of_getElem? (i := 147) rfl)) rfl
  | 8, _ => tg (tb_7 (List.mem_of_getElem? (i := 149) rfl)) rfl
  | 9, _ => tg (tb_7 (List.mem_of_getElem? (i := 151) rfl)) rfl
  | 10, _ => tg (tb_7 (List.mem_of_getElem? (i := 153) rfl)) rfl
  | 11, _ => tg (tb_7 (List.mem_of_getElem? (i := 155) rfl)) rfl
  | 12, _ => tg (tb_7 (List.mem_of_getElem? (i := 157) rfl)) rfl
  | 13, _ => tg (tb_7 (List.mem_of_getElem? (i := 159) rfl)) rfl
  | 14, _ => tg (tb_7 (List.mem_of_getElem? (i := 161) rfl)) rfl
  | 15, _ => tg (tb_7 (List.mem_of_getElem? (i := 163) rfl)) rfl
  | 16, _ => tg (tb_7 (List.mem_of_getElem? (i := 165) rfl)) rfl
  | 17, _ => tg (tb_7 (List.mem_of_getElem? (i := 167) rfl)) rfl
  | 18, _ => tg (tb_7 (List.mem_of_getElem? (i := 169) rfl)) rfl
  | 19, _ => tg (tb_7 (List.mem_of_getElem? (i := 171) rfl)) rfl
  | 20, _ => tg (tb_7 (List.mem_of_getElem? (i := 173) rfl)) rfl
  | 21, _ => tg (tb_7 (List.mem_of_getElem? (i := 175) rfl)) rfl
  | 22, _ => tg (tb_7 (List.mem_of_getElem? (i := 177) rfl)) rfl
  | 23, _ => tg (tb_7 (List.mem_of_getElem? (i := 179) rfl)) rfl
  | 24, _ => tg (tb_7 (List.mem_of_getElem? (i := 181) rfl)) rfl
  | 25, _ => tg (tb_7 (List.mem_of_getElem? (i := 183) rfl)) rfl
  | 26, _ => tg (tb_7 (List.mem_of_getElem? (i := 185) rfl)) rfl
  | 27, _ => tg (tb_7 (List.mem_of_getElem? (i := 187) rfl)) rfl
  | 28, _ => tg (tb_7 (List.mem_of_getElem? (i := 189) rfl)) rfl
  | 29, _ => tg (tb_7 (List.mem_of_getElem? (i := 191) rfl)) rfl
  | 30, _ => tg (tb_7 (List.mem_of_getElem? (i := 193) rfl)) rfl
  | 31, _ => tg (tb_7 (List.mem_of_getElem? (i := 195) rfl)) rfl
  | 32, _ => tg (tb_7 (List.mem_of_getElem? (i := 197) rfl)) rfl
  | 33, _ => tg (tb_7 (List.mem_of_getElem? (i := 199) rfl)) rfl
  | 34, _ => tg (tb_7 (List.mem_of_getElem? (i := 201) rfl)) rfl
  | 35, _ => tg (tb_7 (List.mem_of_getElem? (i := 203) rfl)) rfl
  | 36, _ => tg (tb_7 (List.mem_of_getElem? (i := 205) rfl)) rfl
  | 37, _ => tg (tb_7 (List.mem_of_getElem? (i := 207) rfl)) rfl
  | 38, _ => tg (tb_7 (List.mem_of_getElem? (i := 209) rfl)) rfl
  | 39, _ => tg (tb_7 (List.mem_of_getElem? (i := 211) rfl)) rfl
  | 40, _ => tg (tb_7 (List.mem_of_getElem? (i := 213) rfl)) rfl
  | 41, _ => tg (tb_7 (List.mem_of_getElem? (i := 215) rfl)) rfl
  | 42, _ => tg (tb_7 (List.mem_of_getElem? (i := 217) rfl)) rfl
  | 43, _ => tg (tb_7 (List.mem_of_getElem? (i := 219) rfl)) rfl
  | 44, _ => tg (tb_7 (List.mem_of_getElem? (i := 221) rfl)) rfl
  | 45, _ => tg (tb_7 (List.mem_of_getElem? (i := 223) rfl)) rfl
  | 46, _ => tg (tb_7 (List.mem_of_getElem? (i := 225) rfl)) rfl
  | 47, _ => tg (tb_7 (List.mem_of_getElem? (i := 227) rfl)) rfl
  | 48, _ => tg (tb_7 (List.mem_of_getElem? (i := 229) rfl)) rfl
  | 49, _ => tg (tb_7 (List.mem_of_getElem? (i := 231) rfl)) rfl
  | 50, _ => tg (tb_7 (List.mem_of_getElem? (i := 233) rfl)) rfl
  | 51, _ => tg (tb_7 (List.mem_of_getElem? (i := 235) rfl)) rfl
  | 52, _ => tg (tb_7 (List.mem_of_getElem? (i := 237) rfl)) rfl
  | 53, _ => tg (tb_7 (List.mem_of_getElem? (i := 239) rfl)) rfl
  | 54, _ => tg (tb_8 (List.mem_of_getElem? (i := 1) rfl)) rfl
  | 55, _ => tg (tb_8 (List.mem_of_getElem? (i := 3) rfl)) rfl
  | 56, _ => tg (tb_8 (List.mem_of_getElem? (i := 5) rfl)) rfl
  | 57, _ => tg (tb_8 (List.mem_of_getElem? (i := 7) rfl)) rfl
  | 58, _ => tg (tb_8 (List.mem_of_getElem? (i := 9) rfl)) rfl
  | 59, _ => tg (tb_8 (List.mem_of_getElem? (i := 11) rfl)) rfl
  | 60, _ => tg (tb_8 (List.mem_of_getElem? (i := 13) rfl)) rfl
  | 61, _ => tg (tb_8 (List.mem_of_getElem? (i := 15) rfl)) rfl
  | 62, _ => tg (tb_8 (List.mem_of_getElem? (i := 17) rfl)) rfl
  | 63, _ => tg (tb_8 (List.mem_of_getElem? (i := 19) rfl)) rfl
  | 64, _ => tg (tb_8 (List.mem_of_getElem? (i := 21) rfl)) rfl
  | 65, _ => tg (tb_8 (List.mem_of_getElem? (i := 23) rfl)) rfl
  | k + 66, hk => absurd hk (by omega)
theorem cls_12 : ClsOk 12 RX12 TX12 66 tyX12 := ⟨rfl, fun w hw => by obtain ⟨k, hk, rfl⟩ := List.mem_map.mp hw; exact lay_12 k (List.mem_range.mp hk), tyX12_ok, nmX12⟩
theorem fl_RX0_9 : FLk RX0 9 0 RX0 TX0 18 tyX0 0 := ⟨cls_0, by decide, rfl, tg (tb_1 (List.mem_of_getElem? (i := 178) rfl)) rfl⟩
theorem fl_RX0_15 : FLk RX0 15 0 RX0 TX0 18 tyX0 1 := ⟨cls_0, by decide, rfl, tg (tb_1 (List.mem_of_getElem? (i := 179) rfl)) rfl⟩
theorem fl_RX0_19 : FLk RX0 19 0 RX0 TX0 18 tyX0 4 := ⟨cls_0, by decide, rfl, tg (tb_1 (List.mem_of_getElem? (i := 189) rfl)) rfl⟩
theorem fl_RX0_22 : FLk RX0 22 0 RX0 TX0 18 tyX0 5 := ⟨cls_0, by decide, rfl, tg (tb_1 (List.mem_of_getElem? (i := 191) rfl)) rfl⟩
theorem fl_RX0_25 : FLk RX0 25 0 RX0 TX0 18 tyX0 6 := ⟨cls_0, by decide, rfl, tg (tb_1 (List.mem_of_getElem? (i := 193) rfl)) rfl⟩
theorem fl_RX0_28 : FLk RX0 28 0 RX0 TX0 18 tyX0 7 := ⟨cls_0, by decide, rfl, tg (tb_1 (List.mem_of_getElem? (i := 194) rfl)) rfl⟩
theorem fl_RX0_31 : FLk RX0 31 0 RX0 TX0 18 tyX0 8 := ⟨cls_0, by decide, rfl, tg (tb_1 (List.mem_of_getElem? (i := 203) rfl)) rfl⟩
theorem fl_RX0_34 : FLk RX0 34 0 RX0 TX0 18 tyX0 9 := ⟨cls_0, by decide, rfl, tg (tb_1 (List.mem_of_getElem? (i := 207) rfl)) rfl⟩
theorem fl_RX0_37 : FLk RX0 37 0 RX0 TX0 18 tyX0 10 := ⟨cls_0, by decide, rfl, tg (tb_1 (List.mem_of_getElem? (i := 215) rfl)) rfl⟩
theorem fl_RX0_40 : FLk RX0 40 0 RX0 TX0 18 tyX0 11 := ⟨cls_0, by decide, rfl, tg (tb_1 (List.mem_of_getElem? (i := 223) rfl)) rfl⟩
theorem fl_RX0_43 : FLk RX0 43 0 RX0 TX0 18 tyX0 13 := ⟨cls_0, by decide, rfl, tg (tb_1 (List.mem_of_getElem? (i := 233) rfl)) rfl⟩
theorem fl_RX0_46 : FLk RX0 46 0 RX0 TX0 18 tyX0 15 := ⟨cls_0, by decide, rfl, tg (tb_1 (List.mem_of_getElem? (i := 235) rfl)) rfl⟩
theorem fl_RX0_55 : FLk RX0 55 0 RX0 TX0 18 tyX0 2 := ⟨cls_0, by decide, rfl, tg (tb_1 (List.mem_of_getElem? (i := 181) rfl)) rfl⟩
theorem fl_RX0_59 : FLk RX0 59 0 RX0 TX0 18 tyX0 17 := ⟨cls_0, by decide, rfl, tg (tb_1 (List.mem_of_getElem? (i := 238) rfl)) rfl⟩
theorem fl_RX0_69 : FLk RX0 69 0 RX0 TX0 18 tyX0 16 := ⟨cls_0, by decide, rfl, tg (tb_1 (List.mem_of_getElem? (i := 236) rfl)) rfl⟩
theorem fl_RX0_72 : FLk RX0 72 0 RX0 TX0 18 tyX0 3 := ⟨cls_0, by decide, rfl, tg (tb_1 (List.mem_of_getElem? (i := 187) rfl)) rfl⟩
theorem fl_RX0_79 : FLk RX0 79 0 RX0 TX0 18 tyX0 14 := ⟨cls_0, by decide, rfl, tg (tb_1 (List.mem_of_getElem? (i := 234) rfl)) rfl⟩
theorem fl_RX0_82 : FLk RX0 82 0 RX0 TX0 18 tyX0 12 := ⟨cls_0, by decide, rfl, tg (tb_1 (List.mem_of_getElem? (i := 229) rfl)) rfl⟩
theorem fl_RX0_85 : FLk RX0 85 4 RX4 TX4 13 tyX4 0 := ⟨cls_4, by decide, rfl, tg (tb_1 (List.mem_of_getElem? (i := 50) rfl)) rfl⟩
theorem fl_RX0_90 : FLk RX0 90 4 RX4 TX4 13 tyX4 1 := ⟨cls_4, by decide, rfl, tg (tb_1 (List.mem_of_getElem? (i := 55) rfl)) rfl⟩
theorem fl_RX0_93 : FLk RX0 93 4 RX4 TX4 13 tyX4 6 := ⟨cls_4, by decide, rfl, tg (tb_1 (List.mem_of_getElem? (i := 90) rfl)) rfl⟩
theorem fl_RX0_105 : FLk RX0 105 4 RX4 TX4 13 tyX4 3 := ⟨cls_4, by decide, rfl, tg (tb_1 (List.mem_of_getElem? (i := 72) rfl)) rfl⟩
theorem fl_RX0_106 : FLk RX0 106 4 RX4 TX4 13 tyX4 2 := ⟨cls_4, by decide, rfl, tg (tb_1 (List.mem_of_getElem? (i := 65) rfl)) rfl⟩
theorem fl_RX1_9 : FLk RX1 9 1 RX1 TX1 10 tyX1 0 := ⟨cls_1, by decide, rfl, tg (tb_2 (List.mem_of_getElem? (i := 42) rfl)) rfl⟩
theorem fl_RX1_15 : FLk RX1 15 1 RX1 TX1 10 tyX1 1 := ⟨cls_1, by decide, rfl, tg (tb_2 (List.mem_of_getElem? (i := 43) rfl)) rfl⟩
theorem fl_RX1_19 : FLk RX1 19 1 RX1 TX1 10 tyX1 2 := ⟨cls_1, by decide, rfl, tg (tb_2 (List.mem_of_getElem? (i := 44) rfl)) rfl⟩
theorem fl_RX1_23 : FLk RX1 23 1 RX1 TX1 10 tyX1 3 := ⟨cls_1, by decide, rfl, tg (tb_2 (List.mem_of_getElem? (i := 47) rfl)) rfl⟩
theorem fl_RX1_26 : FLk RX1 26 1 RX1 TX1 10 tyX1 4 := ⟨cls_1, by decide, rfl, tg (tb_2 (List.mem_of_getElem? (i := 48) rfl)) rfl⟩
theorem fl_RX1_29 : FLk RX1 29 1 RX1 TX1 10 tyX1 5 := ⟨cls_1, by decide, rfl, tg (tb_2 (List.mem_of_getElem? (i := 49) rfl)) rfl⟩
theorem fl_RX1_32 : FLk RX1 32 1 RX1 TX1 10 tyX1 7 := ⟨cls_1, by decide, rfl, tg (tb_2 (List.mem_of_getElem? (i := 51) rfl)) rfl⟩
theorem fl_RX1_36 : FLk RX1 36 1 RX1 TX1 10 tyX1 8 := ⟨cls_1, by decide, rfl, tg (tb_2 (List.mem_of_getElem? (i := 52) rfl)) rfl⟩
theorem fl_RX1_39 : FLk RX1 39 1 RX1 TX1 10 tyX1 9 := ⟨cls_1, by decide, rfl, tg (tb_2 (List.mem_of_getElem? (i := 53) rfl)) rfl⟩
theorem fl_RX1_54 : FLk RX1 54 0 RX0 TX0 18 tyX0 3 := ⟨cls_0, by decide, rfl, tg (tb_1 (List.mem_of_getElem? (i := 188) rfl)) rfl⟩
theorem fl_RX1_73 : FLk RX1 73 0 RX0 TX0 18 tyX0 7 := ⟨cls_0, by decide, rfl, tg (tb_1 (List.mem_of_getElem? (i := 201) rfl)) rfl⟩
theorem fl_RX1_80 : FLk RX1 80 0 RX0 TX0 18 tyX0 9 := ⟨cls_0, by decide, rfl, tg (tb_1 (List.mem_of_getElem? (i := 214) rfl)) rfl⟩
theorem fl_RX1_83 : FLk RX1 83 0 RX0 TX0 18 tyX0 10 := ⟨cls_0, by decide, rfl, tg (tb_1 (List.mem_of_getElem? (i := 222) rfl)) rfl⟩
theorem fl_RX1_86 : FLk RX1 86 4 RX4 TX4 13 tyX4 4 := ⟨cls_4, by decide, rfl, tg (tb_1 (List.mem_of_getElem? (i := 81) rfl)) rfl⟩
theorem fl_RX1_99 : FLk RX1 99 0 RX0 TX0 18 tyX0 12 := ⟨cls_0, by decide, rfl, tg (tb_1 (List.mem_of_getElem? (i := 232) rfl)) rfl⟩
theorem fl_RX1_102 : FLk RX1 102 0 RX0 TX0 18 tyX0 11 := ⟨cls_0, by decide, rfl, tg (tb_1 (List.mem_of_getElem? (i := 227) rfl)) rfl⟩
theorem fl_RX1_105 : FLk RX1 105 4 RX4 TX4 13 tyX4 2 := ⟨cls_4, by decide, rfl, tg (tb_1 (List.mem_of_getElem? (i := 66) rfl)) rfl⟩
theorem fl_RX1_106 : FLk RX1 106 4 RX4 TX4 13 tyX4 1 := ⟨cls_4, by decide, rfl, tg (tb_1 (List.mem_of_getElem? (i := 58) rfl)) rfl⟩
theorem fl_RX1_120 : FLk RX1 120 0 RX0 TX0 18 tyX0 16 := ⟨cls_0, by decide, rfl, tg (tb_1 (List.mem_of_getElem? (i := 237) rfl)) rfl⟩
theorem fl_RX1_127 : FLk RX1 127 1 RX1 TX1 10 tyX1 6 := ⟨cls_1, by decide, rfl, tg (tb_2 (List.mem_of_getElem? (i := 50) rfl)) rfl⟩
theorem fl_RX10_9 : FLk RX10 9 10 RX10 TX10 10 tyX10 0 := ⟨cls_10, by decide, rfl, tg (tb_2 (List.mem_of_getElem? (i := 238) rfl)) rfl⟩
theorem fl_RX10_15 : FLk RX10 15 10 RX10 TX10 10 tyX10 1 := ⟨cls_10, by decide, rfl, tg (tb_2 (List.mem_of_getElem? (i := 239) rfl)) rfl⟩
theorem fl_RX10_19 : FLk RX10 19 10 RX10 TX10 10 tyX10 2 := ⟨cls_10, by decide, rfl, tg (tb_3 (List.mem_of_getElem? (i := 0) rfl)) rfl⟩
theorem fl_RX10_23 : FLk RX10 23 10 RX10 TX10 10 tyX10 3 := ⟨cls_10, by decide, rfl, tg (tb_3 (List.mem_of_getElem? (i := 1) rfl)) rfl⟩
theorem fl_RX10_27 : FLk RX10 27 10 RX10 TX10 10 tyX10 4 := ⟨cls_10, by decide, rfl, tg (tb_3 (List.mem_of_getElem? (i := 2) rfl)) rfl⟩
theorem fl_RX10_30 : FLk RX10 30 10 RX10 TX10 10 tyX10 5 := ⟨cls_10, by decide, rfl, tg (tb_3 (List.mem_of_getElem? (i := 3) rfl)) rfl⟩
theorem fl_RX10_33 : FLk RX10 33 10 RX10 TX10 10 tyX10 7 := ⟨cls_10, by decide, rfl, tg (tb_3 (List.mem_of_getElem? (i := 5) rfl)) rfl⟩
theorem fl_RX10_37 : FLk RX10 37 10 RX10 TX10 10 tyX10 8 := ⟨cls_10, by decide, rfl, tg (tb_3 (List.mem_of_getElem? (i := 7) rfl)) rfl⟩
theorem fl_RX10_40 : FLk RX10 40 10 RX10 TX10 10 tyX10 6 := ⟨cls_10, by decide, rfl, tg (tb_3 (List.mem_of_getElem? (i := 4) rfl)) rfl⟩
theorem fl_RX10_65 : FLk RX10 65 3 RX3 TX3 18 tyX3 4 := ⟨cls_3, by decide, rfl, tg (tb_2 (List.mem_of_getElem? (i := 181) rfl)) rfl⟩
theorem fl_RX10_68 : FLk RX10 68 0 RX0 TX0 18 tyX0 7 := ⟨cls_0, by decide, rfl, tg (tb_1 (List.mem_of_getElem? (i := 197) rfl)) rfl⟩
theorem fl_RX10_76 : FLk RX10 76 0 RX0 TX0 18 tyX0 8 := ⟨cls_0, by decide, rfl, tg (tb_1 (List.mem_of_getElem? (i := 206) rfl)) rfl⟩
theorem fl_RX10_88 : FLk RX10 88 10 RX10 TX10 10 tyX10 9 := ⟨cls_10, by decide, rfl, tg (tb_3 (List.mem_of_getElem? (i := 9) rfl)) rfl⟩
theorem fl_RX10_98 : FLk RX10 98 4 RX4 TX4 13 tyX4 1 := ⟨cls_4, by decide, rfl, tg (tb_1 (List.mem_of_getElem? (i := 60) rfl)) rfl⟩
theorem fl_RX10_103 : FLk RX10 103 4 RX4 TX4 13 tyX4 3 := ⟨cls_4, by decide, rfl, tg (tb_1 (List.mem_of_getElem? (i := 75) rfl)) rfl⟩
theorem fl_RX10_109 : FLk RX10 109 4 RX4 TX4 13 tyX4 2 := ⟨cls_4, by decide, rfl, tg (tb_1 (List.mem_of_getElem? (i := 68) rfl)) rfl⟩
theorem fl_RX11_9 : FLk RX11 9 11 RX11 TX11 16 tyX11 0 := ⟨cls_11, by decide, rfl, tg (tb_3 (List.mem_of_getElem? (i := 100) rfl)) rfl⟩
theorem fl_RX11_13 : FLk RX11 13 11 RX11 TX11 16 tyX11 2 := ⟨cls_11, by decide, rfl, tg (tb_3 (List.mem_of_getElem? (i := 102) rfl)) rfl⟩
theorem fl_RX11_21 : FLk RX11 21 11 RX11 TX11 16 tyX11 4 := ⟨cls_11, by decide, rfl, tg (tb_3 (List.mem_of_getElem? (i := 104) rfl)) rfl⟩
theorem fl_RX11_28 : FLk RX11 28 11 RX11 TX11 16 tyX11 5 := ⟨cls_11, by decide, rfl, tg (tb_3 (List.mem_of_getElem? (i := 105) rfl)) rfl⟩
theorem fl_RX11_37 : FLk RX11 37 11 RX11 TX11 16 tyX11 6 := ⟨cls_11, by decide, rfl, tg (tb_3 (List.mem_of_getElem? (i := 106) rfl)) rfl⟩
theorem fl_RX11_46 : FLk RX11 46 11 RX11 TX11 16 tyX11 7 := ⟨cls_11, by decide, rfl, tg (tb_3 (List.mem_of_getElem? (i := 107) rfl)) rfl⟩
theorem fl_RX11_55 : FLk RX11 55 11 RX11 TX11 16 tyX11 8 := ⟨cls_11, by decide, rfl, tg (tb_3 (List.mem_of_getElem? (i := 108) rfl)) rfl⟩
theorem fl_RX11_62 : FLk RX11 62 11 RX11 TX11 16 tyX11 9 := ⟨cls_11, by decide, rfl, tg (tb_3 (List.mem_of_getElem? (i := 109) rfl)) rfl⟩
theorem fl_RX11_69 : FLk RX11 69 11 RX11 TX11 16 tyX11 10 := ⟨cls_11, by decide, rfl, tg (tb_3 (List.mem_of_getElem? (i := 110) rfl)) rfl⟩
theorem fl_RX11_76 : FLk RX11 76 11 RX11 TX11 16 tyX11 11 := ⟨cls_11, by decide, rfl, tg (tb_3 (List.mem_of_getElem? (i := 111) rfl)) rfl⟩
theorem fl_RX11_85 : FLk RX11 85 11 RX11 TX11 16 tyX11 12 := ⟨cls_11, by decide, rfl, tg (tb_3 (List.mem_of_getElem? (i := 112) rfl)) rfl⟩
theorem fl_RX11_89 : FLk RX11 89 11 RX11 TX11 16 tyX11 13 := ⟨cls_11, by decide, rfl, tg (tb_3 (List.mem_of_getElem? (i := 113) rfl)) rfl⟩
theorem fl_RX11_95 : FLk RX11 95 11 RX11 TX11 16 tyX11 14 := ⟨cls_11, by decide, rfl, tg (tb_3 (List.mem_of_getElem? (i := 114) rfl)) rfl⟩
theorem fl_RX11_102 : FLk RX11 102 11 RX11 TX11 16 tyX11 15 := ⟨cls_11, by decide, rfl, tg (tb_3 (List.mem_of_getElem? (i := 115) rfl)) rfl⟩
theorem fl_RX11_106 : FLk RX11 106 11 RX11 TX11 16 tyX11 1 := ⟨cls_11, by decide, rfl, tg (tb_3 (List.mem_of_getElem? (i := 101) rfl)) rfl⟩
theorem fl_RX11_117 : FLk RX11 117 6 RX6 TX6 9 tyX6 2 := ⟨cls_6, by decide, rfl, tg (tb_1 (List.mem_of_getElem? (i := 143) rfl)) rfl⟩
theorem fl_RX11_120 : FLk RX11 120 6 RX6 TX6 9 tyX6 1 := ⟨cls_6, by decide, rfl, tg (tb_1 (List.mem_of_getElem? (i := 141) rfl)) rfl⟩
theorem fl_RX11_129 : FLk RX11 129 4 RX4 TX4 13 tyX4 0 := ⟨cls_4, by decide, rfl, tg (tb_1 (List.mem_of_getElem? (i := 49) rfl)) rfl⟩
theorem fl_RX11_132 : FLk RX11 132 6 RX6 TX6 9 tyX6 3 := ⟨cls_6, by decide, rfl, tg (tb_1 (List.mem_of_getElem? (i := 145) rfl)) rfl⟩
theorem fl_RX11_146 : FLk RX11 146 0 RX0 TX0 18 tyX0 2 := ⟨cls_0, by decide, rfl, tg (tb_1 (List.mem_of_getElem? (i := 182) rfl)) rfl⟩
theorem fl_RX11_153 : FLk RX11 153 4 RX4 TX4 13 tyX4 7 := ⟨cls_4, by decide, rfl, tg (tb_1 (List.mem_of_getElem? (i := 96) rfl)) rfl⟩
theorem fl_RX11_156 : FLk RX11 156 4 RX4 TX4 13 tyX4 8 := ⟨cls_4, by decide, rfl, tg (tb_1 (List.mem_of_getElem? (i := 100) rfl)) rfl⟩
theorem fl_RX11_159 : FLk RX11 159 4 RX4 TX4 13 tyX4 9 := ⟨cls_4, by decide, rfl, tg (tb_1 (List.mem_of_getElem? (i := 104) rfl)) rfl⟩
theorem fl_RX11_165 : FLk RX11 165 11 RX11 TX11 16 tyX11 3 := ⟨cls_11, by decide, rfl, tg (tb_3 (List.mem_of_getElem? (i := 103) rfl)) rfl⟩
theorem fl_RX11_174 : FLk RX11 174 4 RX4 TX4 13 tyX4 1 := ⟨cls_4, by decide, rfl, tg (tb_1 (List.mem_of_getElem? (i := 59) rfl)) rfl⟩
theorem fl_RX11_177 : FLk RX11 177 4 RX4 TX4 13 tyX4 2 := ⟨cls_4, by decide, rfl, tg (tb_1 (List.mem_of_getElem? (i := 67) rfl)) rfl⟩
theorem fl_RX11_180 : FLk RX11 180 4 RX4 TX4 13 tyX4 3 := ⟨cls_4, by decide, rfl, tg (tb_1 (List.mem_of_getElem? (i := 74) rfl)) rfl⟩
theorem fl_RX11_183 : FLk RX11 183 4 RX4 TX4 13 tyX4 4 := ⟨cls_4, by decide, rfl, tg (tb_1 (List.mem_of_getElem? (i := 83) rfl)) rfl⟩
theorem fl_RX11_186 : FLk RX11 186 4 RX4 TX4 13 tyX4 5 := ⟨cls_4, by decide, rfl, tg (tb_1 (List.mem_of_getElem? (i := 87) rfl)) rfl⟩
theorem fl_RX11_189 : FLk RX11 189 4 RX4 TX4 13 tyX4 6 := ⟨cls_4, by decide, rfl, tg (tb_1 (List.mem_of_getElem? (i := 92) rfl)) rfl⟩
theorem fl_RX11_292 : FLk RX11 292 3 RX3 TX3 18 tyX3 3 := ⟨cls_3, by decide, rfl, tg (tb_2 (List.mem_of_getElem? (i := 179) rfl)) rfl⟩
theorem fl_RX11_298 : FLk RX11 298 10 RX10 TX10 10 tyX10 7 := ⟨cls_10, by decide, rfl, tg (tb_3 (List.mem_of_getElem? (i := 6) rfl)) rfl⟩
theorem fl_RX11_301 : FLk RX11 301 10 RX10 TX10 10 tyX10 8 := ⟨cls_10, by decide, rfl, tg (tb_3 (List.mem_of_getElem? (i := 8) rfl)) rfl⟩
theorem fl_RX11_333 : FLk RX11 333 5 RX5 TX5 10 tyX5 5 := ⟨cls_5, by decide, rfl, tg (tb_3 (List.mem_of_getElem? (i := 71) rfl)) rfl⟩
theorem fl_RX11_336 : FLk RX11 336 5 RX5 TX5 10 tyX5 6 := ⟨cls_5, by decide, rfl, tg (tb_3 (List.mem_of_getElem? (i := 73) rfl)) rfl⟩
theorem fl_RX11_339 : FLk RX11 339 5 RX5 TX5 10 tyX5 7 := ⟨cls_5, by decide, rfl, tg (tb_3 (List.mem_of_getElem? (i := 75) rfl)) rfl⟩
theorem fl_RX11_342 : FLk RX11 342 5 RX5 TX5 10 tyX5 8 := ⟨cls_5, by decide, rfl, tg (tb_3 (List.mem_of_getElem? (i := 77) rfl)) rfl⟩
theorem fl_RX12_13 : FLk RX12 13 12 RX12 TX12 66 tyX12 3 := ⟨cls_12, by decide, rfl, tg (tb_7 (List.mem_of_getElem? (i := 70) rfl)) rfl⟩
theorem fl_RX12_17 : FLk RX12 17 12 RX12 TX12 66 tyX12 4 := ⟨cls_12, by decide, rfl, tg (tb_7 (List.mem_of_getElem? (i := 71) rfl)) rfl⟩
theorem fl_RX12_20 : FLk RX12 20 12 RX12 TX12 66 tyX12 5 := ⟨cls_12, by decide, rfl, tg (tb_7 (List.mem_of_getElem? (i := 72) rfl)) rfl⟩
theorem fl_RX12_23 : FLk RX12 23 12 RX12 TX12 66 tyX12 6 := ⟨cls_12, by decide, rfl, tg (tb_7 (List.mem_of_getElem? (i := 73) rfl)) rfl⟩
theorem fl_RX12_26 : FLk RX12 26 12 RX12 TX12 66 tyX12 7 := ⟨cls_12, by decide, rfl, tg (tb_7 (List.mem_of_getElem? (i := 74) rfl)) rfl⟩
theorem fl_RX12_29 : FLk RX12 29 12 RX12 TX12 66 tyX12 8 := ⟨cls_12, by decide, rfl, tg (tb_7 (List.mem_of_getElem? (i := 75) rfl)) rfl⟩
theorem fl_RX12_32 : FLk RX12 32 12 RX12 TX12 66 tyX12 9 := ⟨cls_12, by decide, rfl, tg (tb_7 (List.mem_of_getElem? (i := 76) rfl)) rfl⟩
theorem fl_RX12_35 : FLk RX12 35 12 RX12 TX12 66 tyX12 10 := ⟨cls_12, by decide, rfl, tg (tb_7 (List.mem_of_getElem? (i := 77) rfl)) rfl⟩
theorem fl_RX12_38 : FLk RX12 38 12 RX12 TX12 66 tyX12 11 := ⟨cls_12, by decide, rfl, tg (tb_7 (List.mem_of_getElem? (i := 78) rfl)) rfl⟩
theorem fl_RX12_41 : FLk RX12 41 12 RX12 TX12 66 tyX12 12 := ⟨cls_12, by decide, rfl, tg (tb_7 (List.mem_of_getElem? (i := 79) rfl)) rfl⟩
theorem fl_RX12_44 : FLk RX12 44 12 RX12 TX12 66 tyX12 14 := ⟨cls_12, by decide, rfl, tg (tb_7 (List.mem_of_getElem? (i := 81) rfl)) rfl⟩
theorem fl_RX12_47 : FLk RX12 47 12 RX12 TX12 66 tyX12 16 := ⟨cls_12, by decide, rfl, tg (tb_7 (List.mem_of_getElem? (i := 83) rfl)) rfl⟩
theorem fl_RX12_51 : FLk RX12 51 12 RX12 TX12 66 tyX12 18 := ⟨cls_12, by decide, rfl, tg (tb_7 (List.mem_of_getElem? (i := 85) rfl)) rfl⟩
theorem fl_RX12_54 : FLk RX12 54 12 RX12 TX12 66 tyX12 25 := ⟨cls_12, by decide, rfl, tg (tb_7 (List.mem_of_getElem? (i := 92) rfl)) rfl⟩
theorem fl_RX12_57 : FLk RX12 57 12 RX12 TX12 66 tyX12 26 := ⟨cls_12, by decide, rfl, tg (tb_7 (List.mem_of_getElem? (i := 93) rfl)) rfl⟩
theorem fl_RX12_60 : FLk RX12 60 12 RX12 TX12 66 tyX12 29 := ⟨cls_12, by decide, rfl, tg (tb_7 (List.mem_of_getElem? (i := 96) rfl)) rfl⟩
theorem fl_RX12_63 : FLk RX12 63 12 RX12 TX12 66 tyX12 30 := ⟨cls_12, by decide, rfl, tg (tb_7 (List.mem_of_getElem? (i := 97) rfl)) rfl⟩
theorem fl_RX12_67 : FLk RX12 67 12 RX12 TX12 66 tyX12 31 := ⟨cls_12, by decide, rfl, tg (tb_7 (List.mem_of_getElem? (i := 98) rfl)) rfl⟩
theorem fl_RX12_70 : FLk RX12 70 12 RX12 TX12 66 tyX12 32 := ⟨cls_12, by decide, rfl, tg (tb_7 (List.mem_of_getElem? (i := 99) rfl)) rfl⟩
theorem fl_RX12_74 : FLk RX12 74 12 RX12 TX12 66 tyX12 33 := ⟨cls_12, by decide, rfl, tg (tb_7 (List.mem_of_getElem? (i := 100) rfl)) rfl⟩
theorem fl_RX12_77 : FLk RX12 77 12 RX12 TX12 66 tyX12 34 := ⟨cls_12, by decide, rfl, tg (tb_7 (List.mem_of_getElem? (i := 101) rfl)) rfl⟩
theorem fl_RX12_80 : FLk RX12 80 12 RX12 TX12 66 tyX12 35 := ⟨cls_12, by decide, rfl, tg (tb_7 (List.mem_of_getElem? (i := 102) rfl)) rfl⟩
theorem fl_RX12_83 : FLk RX12 83 12 RX12 TX12 66 tyX12 37 := ⟨cls_12, by decide, rfl, tg (tb_7 (List.mem_of_getElem? (i := 104) rfl)) rfl⟩
theorem fl_RX12_86 : FLk RX12 86 12 RX12 TX12 66 tyX12 38 := ⟨cls_12, by decide, rfl, tg (tb_7 (List.mem_of_getElem? (i := 105) rfl)) rfl⟩
theorem fl_RX12_89 : FLk RX12 89 12 RX12 TX12 66 tyX12 39 := ⟨cls_12, by decide, rfl, tg (tb_7 (List.mem_of_getElem? (i := 106) rfl)) rfl⟩
theorem fl_RX12_92 : FLk RX12 92 12 RX12 TX12 66 tyX12 40 := ⟨cls_12, by decide, rfl, tg (tb_7 (List.mem_of_getElem? (i := 107) rfl)) rfl⟩
theorem fl_RX12_95 : FLk RX12 95 12 RX12 TX12 66 tyX12 42 := ⟨cls_12, by decide, rfl, tg (tb_7 (List.mem_of_getElem? (i := 109) rfl)) rfl⟩
theorem fl_RX12_98 : FLk RX12 98 12 RX12 TX12 66 tyX12 43 := ⟨cls_12, by decide, rfl, tg (tb_7 (List.mem_of_getElem? (i := 110) rfl)) rfl⟩
theorem fl_RX12_102 : FLk RX12 102 12 RX12 TX12 66 tyX12 45 := ⟨cls_12, by decide, rfl, tg (tb_7 (List.mem_of_getElem? (i := 112) rfl)) rfl⟩
theorem fl_RX12_105 : FLk RX12 105 12 RX12 TX12 66 tyX12 46 := ⟨cls_12, by decide, rfl, tg (tb_7 (List.mem_of_getElem? (i := 113) rfl)) rfl⟩
theorem fl_RX12_108 : FLk RX12 108 12 RX12 TX12 66 tyX12 47 := ⟨cls_12, by decide, rfl, tg (tb_7 (List.mem_of_getElem? (i := 114) rfl)) rfl⟩
theorem fl_RX12_111 : FLk RX12 111 12 RX12 TX12 66 tyX12 48 := ⟨cls_12, by decide, rfl, tg (tb_7 (List.mem_of_getElem? (i := 115) rfl)) rfl⟩
theorem fl_RX12_114 : FLk RX12 114 12 RX12 TX12 66 tyX12 49 := ⟨cls_12, by decide, rfl, tg (tb_7 (List.mem_of_getElem? (i := 116) rfl)) rfl⟩
theorem fl_RX12_117 : FLk RX12 117 12 RX12 TX12 66 tyX12 50 := ⟨cls_12, by decide, rfl, tg (tb_7 (List.mem_of_getElem? (i := 117) rfl)) rfl⟩
theorem fl_RX12_120 : FLk RX12 120 12 RX12 TX12 66 tyX12 51 := ⟨cls_12, by decide, rfl, tg (tb_7 (List.mem_of_getElem? (i := 118) rfl)) rfl⟩
theorem fl_RX12_123 : FLk RX12 123 12 RX12 TX12 66 tyX12 52 := ⟨cls_12, by decide, rfl, tg (tb_7 (List.mem_of_getElem? (i := 119) rfl)) rfl⟩
theorem fl_RX12_126 : FLk RX12 126 12 RX12 TX12 66 tyX12 53 := ⟨cls_12, by decide, rfl, tg (tb_7 (List.mem_of_getElem? (i := 120) rfl)) rfl⟩
theorem fl_RX12_129 : FLk RX12 129 12 RX12 TX12 66 tyX12 56 := ⟨cls_12, by decide, rfl, tg (tb_7 (List.mem_of_getElem? (i := 123) rfl)) rfl⟩
theorem fl_RX12_132 : FLk RX12 132 12 RX12 TX12 66 tyX12 57 := ⟨cls_12, by decide, rfl, tg (tb_7 (List.mem_of_getElem? (i := 124) rfl)) rfl⟩
theorem fl_RX12_135 : FLk RX12 135 12 RX12 TX12 66 tyX12 58 := ⟨cls_12, by decide, rfl, tg (tb_7 (List.mem_of_getElem? (i := 125) rfl)) rfl⟩
theorem fl_RX12_138 : FLk RX12 138 12 RX12 TX12 66 tyX12 60 := ⟨cls_12, by decide, rfl, tg (tb_7 (List.mem_of_getElem? (i := 127) rfl)) rfl⟩
theorem fl_RX12_142 : FLk RX12 142 12 RX12 TX12 66 tyX12 62 := ⟨cls_12, by decide, rfl, tg (tb_7 (List.mem_of_getElem? (i := 129) rfl)) rfl⟩
theorem fl_RX12_145 : FLk RX12 145 12 RX12 TX12 66 tyX12 17 := ⟨cls_12, by decide, rfl, tg (tb_7 (List.mem_of_getElem? (i := 84) rfl)) rfl⟩
theorem fl_RX12_152 : FLk RX12 152 12 RX12 TX12 66 tyX12 19 := ⟨cls_12, by decide, rfl, tg (tb_7 (List.mem_of_getElem? (i := 86) rfl)) rfl⟩
theorem fl_RX12_155 : FLk RX12 155 12 RX12 TX12 66 tyX12 20 := ⟨cls_12, by decide, rfl, tg (tb_7 (List.mem_of_getElem? (i := 87) rfl)) rfl⟩
theorem fl_RX12_162 : FLk RX12 162 12 RX12 TX12 66 tyX12 21 := ⟨cls_12, by decide, rfl, tg (tb_7 (List.mem_of_getElem? (i := 88) rfl)) rfl⟩
theorem fl_RX12_165 : FLk RX12 165 12 RX12 TX12 66 tyX12 22 := ⟨cls_12, by decide, rfl, tg (tb_7 (List.mem_of_getElem? (i := 89) rfl)) rfl⟩
theorem fl_RX12_176 : FLk RX12 176 12 RX12 TX12 66 tyX12 23 := ⟨cls_12, by decide, rfl, tg (tb_7 (List.mem_of_getElem? (i := 90) rfl)) rfl⟩
theorem fl_RX12_189 : FLk RX12 189 12 RX12 TX12 66 tyX12 24 := ⟨cls_12, by decide, rfl, tg (tb_7 (List.mem_of_getElem? (i := 91) rfl)) rfl⟩
theorem fl_RX12_230 : FLk RX12 230 12 RX12 TX12 66 tyX12 13 := ⟨cls_12, by decide, rfl, tg (tb_7 (List.mem_of_getElem? (i := 80) rfl)) rfl⟩
theorem fl_RX12_252 : FLk RX12 252 12 RX12 TX12 66 tyX12 1 := ⟨cls_12, by decide, rfl, tg (tb_7 (List.mem_of_getElem? (i := 68) rfl)) rfl⟩
theorem fl_RX12_255 : FLk RX12 255 12 RX12 TX12 66 tyX12 2 := ⟨cls_12, by decide, rfl, tg (tb_7 (List.mem_of_getElem? (i := 69) rfl)) rfl⟩
theorem fl_RX12_259 : FLk RX12 259 12 RX12 TX12 66 tyX12 15 := ⟨cls_12, by decide, rfl, tg (tb_7 (List.mem_of_getElem? (i := 82) rfl)) rfl⟩
theorem fl_RX12_279 : FLk RX12 279 12 RX12 TX12 66 tyX12 28 := ⟨cls_12, by decide, rfl, tg (tb_7 (List.mem_of_getElem? (i := 95) rfl)) rfl⟩
theorem fl_RX12_305 : FLk RX12 305 12 RX12 TX12 66 tyX12 27 := ⟨cls_12, by decide, rfl, tg (tb_7 (List.mem_of_getElem? (i := 94) rfl)) rfl⟩
theorem fl_RX12_386 : FLk RX12 386 12 RX12 TX12 66 tyX12 36 := ⟨cls_12, by decide, rfl, tg (tb_7 (List.mem_of_getElem? (i := 103) rfl)) rfl⟩
theorem fl_RX12_406 : FLk RX12 406 12 RX12 TX12 66 tyX12 41 := ⟨cls_12, by decide, rfl, tg (tb_7 (List.mem_of_getElem? (i := 108) rfl)) rfl⟩
theorem fl_RX12_431 : FLk RX12 431 12 RX12 TX12 66 tyX12 44 := ⟨cls_12, by decide, rfl, tg (tb_7 (List.mem_of_getElem? (i := 111) rfl)) rfl⟩
theorem fl_RX12_480 : FLk RX12 480 12 RX12 TX12 66 tyX12 55 := ⟨cls_12, by decide, rfl, tg (tb_7 (List.mem_of_getElem? (i := 122) rfl)) rfl⟩
theorem fl_RX12_483 : FLk RX12 483 12 RX12 TX12 66 tyX12 54 := ⟨cls_12, by decide, rfl, tg (tb_7 (List.mem_of_getElem? (i := 121) rfl)) rfl⟩
theorem fl_RX12_518 : FLk RX12 518 12 RX12 TX12 66 tyX12 59 := ⟨cls_12, by decide, rfl, tg (tb_7 (List.mem_of_getElem? (i := 126) rfl)) rfl⟩
theorem fl_RX12_551 : FLk RX12 551 12 RX12 TX12 66 tyX12 61 := ⟨cls_12, by decide, rfl, tg (tb_7 (List.mem_of_getElem? (i := 128) rfl)) rfl⟩
theorem fl_RX12_577 : FLk RX12 577 12 RX12 TX12 66 tyX12 65 := ⟨cls_12, by decide, rfl, tg (tb_7 (List.mem_of_getElem? (i := 132) rfl)) rfl⟩
theorem fl_RX12_580 : FLk RX12 580 12 RX12 TX12 66 tyX12 63 := ⟨cls_12, by decide, rfl, tg (tb_7 (List.mem_of_getElem? (i := 130) rfl)) rfl⟩
theorem fl_RX12_583 : FLk RX12 583 12 RX12 TX12 66 tyX12 64 := ⟨cls_12, by decide, rfl, tg (tb_7 (List.mem_of_getElem? (i := 131) rfl)) rfl⟩
theorem fl_RX2_9 : FLk RX2 9 2 RX2 TX2 9 tyX2 0 := ⟨cls_2, by decide, rfl, tg (tb_2 (List.mem_of_getElem? (i := 81) rfl)) rfl⟩
theorem fl_RX2_15 : FLk RX2 15 2 RX2 TX2 9 tyX2 1 := ⟨cls_2, by decide, rfl, tg (tb_2 (List.mem_of_getElem? (i := 82) rfl)) rfl⟩
theorem fl_RX2_19 : FLk RX2 19 2 RX2 TX2 9 tyX2 2 := ⟨cls_2, by decide, rfl, tg (tb_2 (List.mem_of_getElem? (i := 83) rfl)) rfl⟩
theorem fl_RX2_23 : FLk RX2 23 2 RX2 TX2 9 tyX2 3 := ⟨cls_2, by decide, rfl, tg (tb_2 (List.mem_of_getElem? (i := 84) rfl)) rfl⟩
theorem fl_RX2_27 : FLk RX2 27 2 RX2 TX2 9 tyX2 4 := ⟨cls_2, by decide, rfl, tg (tb_2 (List.mem_of_getElem? (i := 85) rfl)) rfl⟩
theorem fl_RX2_30 : FLk RX2 30 2 RX2 TX2 9 tyX2 5 := ⟨cls_2, by decide, rfl, tg (tb_2 (List.mem_of_getElem? (i := 86) rfl)) rfl⟩
theorem fl_RX2_33 : FLk RX2 33 2 RX2 TX2 9 tyX2 6 := ⟨cls_2, by decide, rfl, tg (tb_2 (List.mem_of_getElem? (i := 87) rfl)) rfl⟩
theorem fl_RX2_37 : FLk RX2 37 2 RX2 TX2 9 tyX2 7 := ⟨cls_2, by decide, rfl, tg (tb_2 (List.mem_of_getElem? (i := 88) rfl)) rfl⟩
theorem fl_RX2_40 : FLk RX2 40 2 RX2 TX2 9 tyX2 8 := ⟨cls_2, by decide, rfl, tg (tb_2 (List.mem_of_getElem? (i := 89) rfl)) rfl⟩
theorem fl_RX2_48 : FLk RX2 48 0 RX0 TX0 18 tyX0 3 := ⟨cls_0, by decide, rfl, tg (tb_1 (List.mem_of_getElem? (i := 184) rfl)) rfl⟩
theorem fl_RX2_89 : FLk RX2 89 0 RX0 TX0 18 tyX0 9 := ⟨cls_0, by decide, rfl, tg (tb_1 (List.mem_of_getElem? (i := 209) rfl)) rfl⟩
theorem fl_RX2_93 : FLk RX2 93 0 RX0 TX0 18 tyX0 10 := ⟨cls_0, by decide, rfl, tg (tb_1 (List.mem_of_getElem? (i := 218) rfl)) rfl⟩
theorem fl_RX2_103 : FLk RX2 103 0 RX0 TX0 18 tyX0 12 := ⟨cls_0, by decide, rfl, tg (tb_1 (List.mem_of_getElem? (i := 231) rfl)) rfl⟩
theorem fl_RX2_106 : FLk RX2 106 0 RX0 TX0 18 tyX0 11 := ⟨cls_0, by decide, rfl, tg (tb_1 (List.mem_of_getElem? (i := 226) rfl)) rfl⟩
theorem fl_RX2_109 : FLk RX2 109 4 RX4 TX4 13 tyX4 1 := ⟨cls_4, by decide, rfl, tg (tb_1 (List.mem_of_getElem? (i := 57) rfl)) rfl⟩
theorem fl_RX2_114 : FLk RX2 114 4 RX4 TX4 13 tyX4 2 := ⟨cls_4, by decide, rfl, tg (tb_1 (List.mem_of_getElem? (i := 64) rfl)) rfl⟩
theorem fl_RX2_140 : FLk RX2 140 0 RX0 TX0 18 tyX0 7 := ⟨cls_0, by decide, rfl, tg (tb_1 (List.mem_of_getElem? (i := 202) rfl)) rfl⟩
theorem fl_RX3_9 : FLk RX3 9 3 RX3 TX3 18 tyX3 0 := ⟨cls_3, by decide, rfl, tg (tb_2 (List.mem_of_getElem? (i := 175) rfl)) rfl⟩
theorem fl_RX3_15 : FLk RX3 15 3 RX3 TX3 18 tyX3 1 := ⟨cls_3, by decide, rfl, tg (tb_2 (List.mem_of_getElem? (i := 176) rfl)) rfl⟩
theorem fl_RX3_19 : FLk RX3 19 3 RX3 TX3 18 tyX3 2 := ⟨cls_3, by decide, rfl, tg (tb_2 (List.mem_of_getElem? (i := 177) rfl)) rfl⟩
theorem fl_RX3_23 : FLk RX3 23 3 RX3 TX3 18 tyX3 3 := ⟨cls_3, by decide, rfl, tg (tb_2 (List.mem_of_getElem? (i := 178) rfl)) rfl⟩
theorem fl_RX3_27 : FLk RX3 27 3 RX3 TX3 18 tyX3 4 := ⟨cls_3, by decide, rfl, tg (tb_2 (List.mem_of_getElem? (i := 180) rfl)) rfl⟩
theorem fl_RX3_30 : FLk RX3 30 3 RX3 TX3 18 tyX3 5 := ⟨cls_3, by decide, rfl, tg (tb_2 (List.mem_of_getElem? (i := 182) rfl)) rfl⟩
theorem fl_RX3_33 : FLk RX3 33 3 RX3 TX3 18 tyX3 6 := ⟨cls_3, by decide, rfl, tg (tb_2 (List.mem_of_getElem? (i := 183) rfl)) rfl⟩
theorem fl_RX3_36 : FLk RX3 36 3 RX3 TX3 18 tyX3 7 := ⟨cls_3, by decide, rfl, tg (tb_2 (List.mem_of_getElem? (i := 184) rfl)) rfl⟩
theorem fl_RX3_39 : FLk RX3 39 3 RX3 TX3 18 tyX3 8 := ⟨cls_3, by decide, rfl, tg (tb_2 (List.mem_of_getElem? (i := 185) rfl)) rfl⟩
theorem fl_RX3_43 : FLk RX3 43 3 RX3 TX3 18 tyX3 9 := ⟨cls_3, by decide, rfl, tg (tb_2 (List.mem_of_getElem? (i := 186) rfl)) rfl⟩
theorem fl_RX3_46 : FLk RX3 46 3 RX3 TX3 18 tyX3 10 := ⟨cls_3, by decide, rfl, tg (tb_2 (List.mem_of_getElem? (i := 187) rfl)) rfl⟩
theorem fl_RX3_49 : FLk RX3 49 3 RX3 TX3 18 tyX3 11 := ⟨cls_3, by decide, rfl, tg (tb_2 (List.mem_of_getElem? (i := 188) rfl)) rfl⟩
theorem fl_RX3_52 : FLk RX3 52 3 RX3 TX3 18 tyX3 12 := ⟨cls_3, by decide, rfl, tg (tb_2 (List.mem_of_getElem? (i := 189) rfl)) rfl⟩
theorem fl_RX3_55 : FLk RX3 55 3 RX3 TX3 18 tyX3 13 := ⟨cls_3, by decide, rfl, tg (tb_2 (List.mem_of_getElem? (i := 190) rfl)) rfl⟩
theorem fl_RX3_58 : FLk RX3 58 3 RX3 TX3 18 tyX3 14 := ⟨cls_3, by decide, rfl, tg (tb_2 (List.mem_of_getElem? (i := 191) rfl)) rfl⟩
theorem fl_RX3_61 : FLk RX3 61 3 RX3 TX3 18 tyX3 15 := ⟨cls_3, by decide, rfl, tg (tb_2 (List.mem_of_getElem? (i := 192) rfl)) rfl⟩
theorem fl_RX3_79 : FLk RX3 79 0 RX0 TX0 18 tyX0 9 := ⟨cls_0, by decide, rfl, tg (tb_1 (List.mem_of_getElem? (i := 208) rfl)) rfl⟩
theorem fl_RX3_82 : FLk RX3 82 0 RX0 TX0 18 tyX0 10 := ⟨cls_0, by decide, rfl, tg (tb_1 (List.mem_of_getElem? (i := 216) rfl)) rfl⟩
theorem fl_RX3_85 : FLk RX3 85 0 RX0 TX0 18 tyX0 12 := ⟨cls_0, by decide, rfl, tg (tb_1 (List.mem_of_getElem? (i := 230) rfl)) rfl⟩
theorem fl_RX3_89 : FLk RX3 89 0 RX0 TX0 18 tyX0 11 := ⟨cls_0, by decide, rfl, tg (tb_1 (List.mem_of_getElem? (i := 225) rfl)) rfl⟩
theorem fl_RX3_92 : FLk RX3 92 4 RX4 TX4 13 tyX4 1 := ⟨cls_4, by decide, rfl, tg (tb_1 (List.mem_of_getElem? (i := 56) rfl)) rfl⟩
theorem fl_RX3_118 : FLk RX3 118 0 RX0 TX0 18 tyX0 7 := ⟨cls_0, by decide, rfl, tg (tb_1 (List.mem_of_getElem? (i := 200) rfl)) rfl⟩
theorem fl_RX3_131 : FLk RX3 131 4 RX4 TX4 13 tyX4 4 := ⟨cls_4, by decide, rfl, tg (tb_1 (List.mem_of_getElem? (i := 82) rfl)) rfl⟩
theorem fl_RX3_156 : FLk RX3 156 3 RX3 TX3 18 tyX3 16 := ⟨cls_3, by decide, rfl, tg (tb_2 (List.mem_of_getElem? (i := 193) rfl)) rfl⟩
theorem fl_RX3_159 : FLk RX3 159 3 RX3 TX3 18 tyX3 17 := ⟨cls_3, by decide, rfl, tg (tb_2 (List.mem_of_getElem? (i := 194) rfl)) rfl⟩
theorem fl_RX3_162 : FLk RX3 162 4 RX4 TX4 13 tyX4 2 := ⟨cls_4, by decide, rfl, tg (tb_1 (List.mem_of_getElem? (i := 69) rfl)) rfl⟩
theorem fl_RX4_9 : FLk RX4 9 4 RX4 TX4 13 tyX4 1 := ⟨cls_4, by decide, rfl, tg (tb_1 (List.mem_of_getElem? (i := 52) rfl)) rfl⟩
theorem fl_RX4_15 : FLk RX4 15 4 RX4 TX4 13 tyX4 2 := ⟨cls_4, by decide, rfl, tg (tb_1 (List.mem_of_getElem? (i := 61) rfl)) rfl⟩
theorem fl_RX4_18 : FLk RX4 18 4 RX4 TX4 13 tyX4 3 := ⟨cls_4, by decide, rfl, tg (tb_1 (List.mem_of_getElem? (i := 70) rfl)) rfl⟩
theorem fl_RX4_21 : FLk RX4 21 4 RX4 TX4 13 tyX4 4 := ⟨cls_4, by decide, rfl, tg (tb_1 (List.mem_of_getElem? (i := 76) rfl)) rfl⟩
theorem fl_RX4_24 : FLk RX4 24 4 RX4 TX4 13 tyX4 5 := ⟨cls_4, by decide, rfl, tg (tb_1 (List.mem_of_getElem? (i := 84) rfl)) rfl⟩
theorem fl_RX4_27 : FLk RX4 27 4 RX4 TX4 13 tyX4 6 := ⟨cls_4, by decide, rfl, tg (tb_1 (List.mem_of_getElem? (i := 88) rfl)) rfl⟩
theorem fl_RX4_31 : FLk RX4 31 4 RX4 TX4 13 tyX4 10 := ⟨cls_4, by decide, rfl, tg (tb_1 (List.mem_of_getElem? (i := 105) rfl)) rfl⟩
theorem fl_RX4_34 : FLk RX4 34 4 RX4 TX4 13 tyX4 11 := ⟨cls_4, by decide, rfl, tg (tb_1 (List.mem_of_getElem? (i := 107) rfl)) rfl⟩
theorem fl_RX4_37 : FLk RX4 37 4 RX4 TX4 13 tyX4 12 := ⟨cls_4, by decide, rfl, tg (tb_1 (List.mem_of_getElem? (i := 109) rfl)) rfl⟩
theorem fl_RX4_43 : FLk RX4 43 4 RX4 TX4 13 tyX4 0 := ⟨cls_4, by decide, rfl, tg (tb_1 (List.mem_of_getElem? (i := 46) rfl)) rfl⟩
theorem fl_RX4_47 : FLk RX4 47 4 RX4 TX4 13 tyX4 7 := ⟨cls_4, by decide, rfl, tg (tb_1 (List.mem_of_getElem? (i := 93) rfl)) rfl⟩
theorem fl_RX4_50 : FLk RX4 50 4 RX4 TX4 13 tyX4 8 := ⟨cls_4, by decide, rfl, tg (tb_1 (List.mem_of_getElem? (i := 97) rfl)) rfl⟩
theorem fl_RX4_53 : FLk RX4 53 4 RX4 TX4 13 tyX4 9 := ⟨cls_4, by decide, rfl, tg (tb_1 (List.mem_of_getElem? (i := 101) rfl)) rfl⟩
theorem fl_RX5_9 : FLk RX5 9 5 RX5 TX5 10 tyX5 0 := ⟨cls_5, by decide, rfl, tg (tb_3 (List.mem_of_getElem? (i := 65) rfl)) rfl⟩
theorem fl_RX5_15 : FLk RX5 15 5 RX5 TX5 10 tyX5 1 := ⟨cls_5, by decide, rfl, tg (tb_3 (List.mem_of_getElem? (i := 66) rfl)) rfl⟩
theorem fl_RX5_19 : FLk RX5 19 5 RX5 TX5 10 tyX5 2 := ⟨cls_5, by decide, rfl, tg (tb_3 (List.mem_of_getElem? (i := 67) rfl)) rfl⟩
theorem fl_RX5_23 : FLk RX5 23 5 RX5 TX5 10 tyX5 3 := ⟨cls_5, by decide, rfl, tg (tb_3 (List.mem_of_getElem? (i := 68) rfl)) rfl⟩
theorem fl_RX5_27 : FLk RX5 27 5 RX5 TX5 10 tyX5 4 := ⟨cls_5, by decide, rfl, tg (tb_3 (List.mem_of_getElem? (i := 69) rfl)) rfl⟩
theorem fl_RX5_30 : FLk RX5 30 5 RX5 TX5 10 tyX5 9 := ⟨cls_5, by decide, rfl, tg (tb_3 (List.mem_of_getElem? (i := 78) rfl)) rfl⟩
theorem fl_RX5_49 : FLk RX5 49 0 RX0 TX0 18 tyX0 3 := ⟨cls_0, by decide, rfl, tg (tb_1 (List.mem_of_getElem? (i := 186) rfl)) rfl⟩
theorem fl_RX5_55 : FLk RX5 55 4 RX4 TX4 13 tyX4 0 := ⟨cls_4, by decide, rfl, tg (tb_1 (List.mem_of_getElem? (i := 47) rfl)) rfl⟩
theorem fl_RX5_60 : FLk RX5 60 4 RX4 TX4 13 tyX4 6 := ⟨cls_4, by decide, rfl, tg (tb_1 (List.mem_of_getElem? (i := 89) rfl)) rfl⟩
theorem fl_RX5_78 : FLk RX5 78 0 RX0 TX0 18 tyX0 12 := ⟨cls_0, by decide, rfl, tg (tb_1 (List.mem_of_getElem? (i := 228) rfl)) rfl⟩
theorem fl_RX5_81 : FLk RX5 81 0 RX0 TX0 18 tyX0 11 := ⟨cls_0, by decide, rfl, tg (tb_1 (List.mem_of_getElem? (i := 224) rfl)) rfl⟩
theorem fl_RX5_84 : FLk RX5 84 4 RX4 TX4 13 tyX4 1 := ⟨cls_4, by decide, rfl, tg (tb_1 (List.mem_of_getElem? (i := 54) rfl)) rfl⟩
theorem fl_RX5_87 : FLk RX5 87 4 RX4 TX4 13 tyX4 2 := ⟨cls_4, by decide, rfl, tg (tb_1 (List.mem_of_getElem? (i := 63) rfl)) rfl⟩
theorem fl_RX5_90 : FLk RX5 90 4 RX4 TX4 13 tyX4 4 := ⟨cls_4, by decide, rfl, tg (tb_1 (List.mem_of_getElem? (i := 79) rfl)) rfl⟩
theorem fl_RX5_104 : FLk RX5 104 0 RX0 TX0 18 tyX0 9 := ⟨cls_0, by decide, rfl, tg (tb_1 (List.mem_of_getElem? (i := 212) rfl)) rfl⟩
theorem fl_RX5_105 : FLk RX5 105 0 RX0 TX0 18 tyX0 10 := ⟨cls_0, by decide, rfl, tg (tb_1 (List.mem_of_getElem? (i := 220) rfl)) rfl⟩
theorem fl_RX5_108 : FLk RX5 108 0 RX0 TX0 18 tyX0 7 := ⟨cls_0, by decide, rfl, tg (tb_1 (List.mem_of_getElem? (i := 199) rfl)) rfl⟩
theorem fl_RX5_111 : FLk RX5 111 1 RX1 TX1 10 tyX1 2 := ⟨cls_1, by decide, rfl, tg (tb_2 (List.mem_of_getElem? (i := 46) rfl)) rfl⟩
theorem fl_RX5_114 : FLk RX5 114 0 RX0 TX0 18 tyX0 8 := ⟨cls_0, by decide, rfl, tg (tb_1 (List.mem_of_getElem? (i := 205) rfl)) rfl⟩
theorem fl_RX5_121 : FLk RX5 121 0 RX0 TX0 18 tyX0 4 := ⟨cls_0, by decide, rfl, tg (tb_1 (List.mem_of_getElem? (i := 190) rfl)) rfl⟩
theorem fl_RX5_124 : FLk RX5 124 0 RX0 TX0 18 tyX0 5 := ⟨cls_0, by decide, rfl, tg (tb_1 (List.mem_of_getElem? (i := 192) rfl)) rfl⟩
theorem fl_RX5_127 : FLk RX5 127 4 RX4 TX4 13 tyX4 3 := ⟨cls_4, by decide, rfl, tg (tb_1 (List.mem_of_getElem? (i := 73) rfl)) rfl⟩
theorem fl_RX5_139 : FLk RX5 139 0 RX0 TX0 18 tyX0 1 := ⟨cls_0, by decide, rfl, tg (tb_1 (List.mem_of_getElem? (i := 180) rfl)) rfl⟩
theorem fl_RX5_142 : FLk RX5 142 5 RX5 TX5 10 tyX5 5 := ⟨cls_5, by decide, rfl, tg (tb_3 (List.mem_of_getElem? (i := 70) rfl)) rfl⟩
theorem fl_RX5_145 : FLk RX5 145 5 RX5 TX5 10 tyX5 6 := ⟨cls_5, by decide, rfl, tg (tb_3 (List.mem_of_getElem? (i := 72) rfl)) rfl⟩
theorem fl_RX5_148 : FLk RX5 148 5 RX5 TX5 10 tyX5 7 := ⟨cls_5, by decide, rfl, tg (tb_3 (List.mem_of_getElem? (i := 74) rfl)) rfl⟩
theorem fl_RX5_151 : FLk RX5 151 5 RX5 TX5 10 tyX5 8 := ⟨cls_5, by decide, rfl, tg (tb_3 (List.mem_of_getElem? (i := 76) rfl)) rfl⟩
theorem fl_RX5_154 : FLk RX5 154 0 RX0 TX0 18 tyX0 2 := ⟨cls_0, by decide, rfl, tg (tb_1 (List.mem_of_getElem? (i := 183) rfl)) rfl⟩
theorem fl_RX6_9 : FLk RX6 9 6 RX6 TX6 9 tyX6 0 := ⟨cls_6, by decide, rfl, tg (tb_1 (List.mem_of_getElem? (i := 139) rfl)) rfl⟩
theorem fl_RX6_18 : FLk RX6 18 6 RX6 TX6 9 tyX6 1 := ⟨cls_6, by decide, rfl, tg (tb_1 (List.mem_of_getElem? (i := 140) rfl)) rfl⟩
theorem fl_RX6_22 : FLk RX6 22 6 RX6 TX6 9 tyX6 2 := ⟨cls_6, by decide, rfl, tg (tb_1 (List.mem_of_getElem? (i := 142) rfl)) rfl⟩
theorem fl_RX6_26 : FLk RX6 26 6 RX6 TX6 9 tyX6 3 := ⟨cls_6, by decide, rfl, tg (tb_1 (List.mem_of_getElem? (i := 144) rfl)) rfl⟩
theorem fl_RX6_29 : FLk RX6 29 6 RX6 TX6 9 tyX6 4 := ⟨cls_6, by decide, rfl, tg (tb_1 (List.mem_of_getElem? (i := 146) rfl)) rfl⟩
theorem fl_RX6_32 : FLk RX6 32 6 RX6 TX6 9 tyX6 7 := ⟨cls_6, by decide, rfl, tg (tb_1 (List.mem_of_getElem? (i := 149) rfl)) rfl⟩
theorem fl_RX6_41 : FLk RX6 41 6 RX6 TX6 9 tyX6 5 := ⟨cls_6, by decide, rfl, tg (tb_1 (List.mem_of_getElem? (i := 147) rfl)) rfl⟩
theorem fl_RX6_70 : FLk RX6 70 4 RX4 TX4 13 tyX4 7 := ⟨cls_4, by decide, rfl, tg (tb_1 (List.mem_of_getElem? (i := 94) rfl)) rfl⟩
theorem fl_RX6_79 : FLk RX6 79 4 RX4 TX4 13 tyX4 8 := ⟨cls_4, by decide, rfl, tg (tb_1 (List.mem_of_getElem? (i := 98) rfl)) rfl⟩
theorem fl_RX6_83 : FLk RX6 83 4 RX4 TX4 13 tyX4 9 := ⟨cls_4, by decide, rfl, tg (tb_1 (List.mem_of_getElem? (i := 102) rfl)) rfl⟩
theorem fl_RX6_87 : FLk RX6 87 4 RX4 TX4 13 tyX4 10 := ⟨cls_4, by decide, rfl, tg (tb_1 (List.mem_of_getElem? (i := 106) rfl)) rfl⟩
theorem fl_RX6_96 : FLk RX6 96 4 RX4 TX4 13 tyX4 11 := ⟨cls_4, by decide, rfl, tg (tb_1 (List.mem_of_getElem? (i := 108) rfl)) rfl⟩
theorem fl_RX6_104 : FLk RX6 104 4 RX4 TX4 13 tyX4 0 := ⟨cls_4, by decide, rfl, tg (tb_1 (List.mem_of_getElem? (i := 48) rfl)) rfl⟩
theorem fl_RX6_107 : FLk RX6 107 4 RX4 TX4 13 tyX4 1 := ⟨cls_4, by decide, rfl, tg (tb_1 (List.mem_of_getElem? (i := 53) rfl)) rfl⟩
theorem fl_RX6_114 : FLk RX6 114 4 RX4 TX4 13 tyX4 2 := ⟨cls_4, by decide, rfl, tg (tb_1 (List.mem_of_getElem? (i := 62) rfl)) rfl⟩
theorem fl_RX6_117 : FLk RX6 117 4 RX4 TX4 13 tyX4 3 := ⟨cls_4, by decide, rfl, tg (tb_1 (List.mem_of_getElem? (i := 71) rfl)) rfl⟩
theorem fl_RX6_127 : FLk RX6 127 4 RX4 TX4 13 tyX4 4 := ⟨cls_4, by decide, rfl, tg (tb_1 (List.mem_of_getElem? (i := 80) rfl)) rfl⟩
theorem fl_RX6_132 : FLk RX6 132 4 RX4 TX4 13 tyX4 5 := ⟨cls_4, by decide, rfl, tg (tb_1 (List.mem_of_getElem? (i := 85) rfl)) rfl⟩
theorem fl_RX6_137 : FLk RX6 137 6 RX6 TX6 9 tyX6 6 := ⟨cls_6, by decide, rfl, tg (tb_1 (List.mem_of_getElem? (i := 148) rfl)) rfl⟩
theorem fl_RX6_140 : FLk RX6 140 6 RX6 TX6 9 tyX6 8 := ⟨cls_6, by decide, rfl, tg (tb_1 (List.mem_of_getElem? (i := 150) rfl)) rfl⟩
theorem fl_RX7_9 : FLk RX7 9 7 RX7 TX7 8 tyX7 0 := ⟨cls_7, by decide, rfl, tg (tb_2 (List.mem_of_getElem? (i := 116) rfl)) rfl⟩
theorem fl_RX7_15 : FLk RX7 15 7 RX7 TX7 8 tyX7 1 := ⟨cls_7, by decide, rfl, tg (tb_2 (List.mem_of_getElem? (i := 117) rfl)) rfl⟩
theorem fl_RX7_19 : FLk RX7 19 7 RX7 TX7 8 tyX7 2 := ⟨cls_7, by decide, rfl, tg (tb_2 (List.mem_of_getElem? (i := 118) rfl)) rfl⟩
theorem fl_RX7_23 : FLk RX7 23 7 RX7 TX7 8 tyX7 3 := ⟨cls_7, by decide, rfl, tg (tb_2 (List.mem_of_getElem? (i := 119) rfl)) rfl⟩
theorem fl_RX7_27 : FLk RX7 27 7 RX7 TX7 8 tyX7 4 := ⟨cls_7, by decide, rfl, tg (tb_2 (List.mem_of_getElem? (i := 120) rfl)) rfl⟩
theorem fl_RX7_31 : FLk RX7 31 7 RX7 TX7 8 tyX7 5 := ⟨cls_7, by decide, rfl, tg (tb_2 (List.mem_of_getElem? (i := 121) rfl)) rfl⟩
theorem fl_RX7_34 : FLk RX7 34 7 RX7 TX7 8 tyX7 6 := ⟨cls_7, by decide, rfl, tg (tb_2 (List.mem_of_getElem? (i := 122) rfl)) rfl⟩
theorem fl_RX7_37 : FLk RX7 37 7 RX7 TX7 8 tyX7 7 := ⟨cls_7, by decide, rfl, tg (tb_2 (List.mem_of_getElem? (i := 123) rfl)) rfl⟩
theorem fl_RX7_46 : FLk RX7 46 0 RX0 TX0 18 tyX0 3 := ⟨cls_0, by decide, rfl, tg (tb_1 (List.mem_of_getElem? (i := 185) rfl)) rfl⟩
theorem fl_RX7_80 : FLk RX7 80 4 RX4 TX4 13 tyX4 4 := ⟨cls_4, by decide, rfl, tg (tb_1 (List.mem_of_getElem? (i := 77) rfl)) rfl⟩
theorem fl_RX7_85 : FLk RX7 85 0 RX0 TX0 18 tyX0 7 := ⟨cls_0, by decide, rfl, tg (tb_1 (List.mem_of_getElem? (i := 195) rfl)) rfl⟩
theorem fl_RX7_88 : FLk RX7 88 0 RX0 TX0 18 tyX0 9 := ⟨cls_0, by decide, rfl, tg (tb_1 (List.mem_of_getElem? (i := 210) rfl)) rfl⟩
theorem fl_RX7_91 : FLk RX7 91 0 RX0 TX0 18 tyX0 10 := ⟨cls_0, by decide, rfl, tg (tb_1 (List.mem_of_getElem? (i := 217) rfl)) rfl⟩
theorem fl_RX8_9 : FLk RX8 9 8 RX8 TX8 7 tyX8 0 := ⟨cls_8, by decide, rfl, tg (tb_3 (List.mem_of_getElem? (i := 37) rfl)) rfl⟩
theorem fl_RX8_15 : FLk RX8 15 8 RX8 TX8 7 tyX8 1 := ⟨cls_8, by decide, rfl, tg (tb_3 (List.mem_of_getElem? (i := 38) rfl)) rfl⟩
theorem fl_RX8_19 : FLk RX8 19 8 RX8 TX8 7 tyX8 2 := ⟨cls_8, by decide, rfl, tg (tb_3 (List.mem_of_getElem? (i := 39) rfl)) rfl⟩
theorem fl_RX8_23 : FLk RX8 23 8 RX8 TX8 7 tyX8 3 := ⟨cls_8, by decide, rfl, tg (tb_3 (List.mem_of_getElem? (i := 40) rfl)) rfl⟩
theorem fl_RX8_27 : FLk RX8 27 8 RX8 TX8 7 tyX8 4 := ⟨cls_8, by decide, rfl, tg (tb_3 (List.mem_of_getElem? (i := 41) rfl)) rfl⟩
theorem fl_RX8_30 : FLk RX8 30 8 RX8 TX8 7 tyX8 5 := ⟨cls_8, by decide, rfl, tg (tb_3 (List.mem_of_getElem? (i := 42) rfl)) rfl⟩
theorem fl_RX8_48 : FLk RX8 48 8 RX8 TX8 7 tyX8 6 := ⟨cls_8, by decide, rfl, tg (tb_3 (List.mem_of_getElem? (i := 43) rfl)) rfl⟩
theorem fl_RX8_74 : FLk RX8 74 1 RX1 TX1 10 tyX1 2 := ⟨cls_1, by decide, rfl, tg (tb_2 (List.mem_of_getElem? (i := 45) rfl)) rfl⟩
theorem fl_RX8_86 : FLk RX8 86 4 RX4 TX4 13 tyX4 4 := ⟨cls_4, by decide, rfl, tg (tb_1 (List.mem_of_getElem? (i := 78) rfl)) rfl⟩
theorem fl_RX8_91 : FLk RX8 91 0 RX0 TX0 18 tyX0 7 := ⟨cls_0, by decide, rfl, tg (tb_1 (List.mem_of_getElem? (i := 196) rfl)) rfl⟩
theorem fl_RX8_100 : FLk RX8 100 0 RX0 TX0 18 tyX0 9 := ⟨cls_0, by decide, rfl, tg (tb_1 (List.mem_of_getElem? (i := 211) rfl)) rfl⟩
theorem fl_RX8_103 : FLk RX8 103 0 RX0 TX0 18 tyX0 10 := ⟨cls_0, by decide, rfl, tg (tb_1 (List.mem_of_getElem? (i := 219) rfl)) rfl⟩
theorem fl_RX9_9 : FLk RX9 9 9 RX9 TX9 7 tyX9 0 := ⟨cls_9, by decide, rfl, tg (tb_2 (List.mem_of_getElem? (i := 147) rfl)) rfl⟩
theorem fl_RX9_15 : FLk RX9 15 9 RX9 TX9 7 tyX9 1 := ⟨cls_9, by decide, rfl, tg (tb_2 (List.mem_of_getElem? (i := 148) rfl)) rfl⟩
theorem fl_RX9_19 : FLk RX9 19 9 RX9 TX9 7 tyX9 2 := ⟨cls_9, by decide, rfl, tg (tb_2 (List.mem_of_getElem? (i := 149) rfl)) rfl⟩
theorem fl_RX9_23 : FLk RX9 23 9 RX9 TX9 7 tyX9 3 := ⟨cls_9, by decide, rfl, tg (tb_2 (List.mem_of_getElem? (i := 150) rfl)) rfl⟩
theorem fl_RX9_26 : FLk RX9 26 9 RX9 TX9 7 tyX9 4 := ⟨cls_9, by decide, rfl, tg (tb_2 (List.mem_of_getElem? (i := 151) rfl)) rfl⟩
theorem fl_RX9_30 : FLk RX9 30 9 RX9 TX9 7 tyX9 6 := ⟨cls_9, by decide, rfl, tg (tb_2 (List.mem_of_getElem? (i := 153) rfl)) rfl⟩
theorem fl_RX9_43 : FLk RX9 43 9 RX9 TX9 7 tyX9 5 := ⟨cls_9, by decide, rfl, tg (tb_2 (List.mem_of_getElem? (i := 152) rfl)) rfl⟩
theorem fl_RX9_47 : FLk RX9 47 4 RX4 TX4 13 tyX4 8 := ⟨cls_4, by decide, rfl, tg (tb_1 (List.mem_of_getElem? (i := 99) rfl)) rfl⟩
theorem fl_RX9_81 : FLk RX9 81 4 RX4 TX4 13 tyX4 5 := ⟨cls_4, by decide, rfl, tg (tb_1 (List.mem_of_getElem? (i := 86) rfl)) rfl⟩
theorem fl_RX9_84 : FLk RX9 84 0 RX0 TX0 18 tyX0 7 := ⟨cls_0, by decide, rfl, tg (tb_1 (List.mem_of_getElem? (i := 198) rfl)) rfl⟩
theorem fl_RX9_87 : FLk RX9 87 0 RX0 TX0 18 tyX0 9 := ⟨cls_0, by decide, rfl, tg (tb_1 (List.mem_of_getElem? (i := 213) rfl)) rfl⟩
theorem fl_RX9_97 : FLk RX9 97 0 RX0 TX0 18 tyX0 8 := ⟨cls_0, by decide, rfl, tg (tb_1 (List.mem_of_getElem? (i := 204) rfl)) rfl⟩
theorem fl_RX9_100 : FLk RX9 100 0 RX0 TX0 18 tyX0 10 := ⟨cls_0, by decide, rfl, tg (tb_1 (List.mem_of_getElem? (i := 221) rfl)) rfl⟩
theorem fl_RX9_106 : FLk RX9 106 4 RX4 TX4 13 tyX4 9 := ⟨cls_4, by decide, rfl, tg (tb_1 (List.mem_of_getElem? (i := 103) rfl)) rfl⟩
theorem fl_RX9_112 : FLk RX9 112 4 RX4 TX4 13 tyX4 7 := ⟨cls_4, by decide, rfl, tg (tb_1 (List.mem_of_getElem? (i := 95) rfl)) rfl⟩
theorem fl_RX9_121 : FLk RX9 121 4 RX4 TX4 13 tyX4 0 := ⟨cls_4, by decide, rfl, tg (tb_1 (List.mem_of_getElem? (i := 51) rfl)) rfl⟩
theorem fl_RX9_124 : FLk RX9 124 4 RX4 TX4 13 tyX4 6 := ⟨cls_4, by decide, rfl, tg (tb_1 (List.mem_of_getElem? (i := 91) rfl)) rfl⟩
theorem ml_RX0_49 : Cond.methodLink RX0 49 Lib.Math.min.name ∈ gtbl := tg (tb_4 (List.mem_of_getElem? (i := 114) rfl)) rfl
theorem ml_RX0_63 : Cond.methodLink RX0 63 yX0_layOutSpans ∈ gtbl := tg (tb_4 (List.mem_of_getElem? (i := 135) rfl)) rfl
theorem ml_RX0_66 : Cond.methodLink RX0 66 yX0_gatherLive ∈ gtbl := tg (tb_4 (List.mem_of_getElem? (i := 139) rfl)) rfl
theorem ml_RX0_75 : Cond.methodLink RX0 75 yX0_addSpan ∈ gtbl := tg (tb_4 (List.mem_of_getElem? (i := 147) rfl)) rfl
theorem ml_RX0_97 : Cond.methodLink RX0 97 yX4_isUnary ∈ gtbl := tg (tb_4 (List.mem_of_getElem? (i := 143) rfl)) rfl
theorem ml_RX0_101 : Cond.methodLink RX0 101 yX0_addCases ∈ gtbl := tg (tb_4 (List.mem_of_getElem? (i := 151) rfl)) rfl
theorem ml_RX0_107 : Cond.methodLink RX0 107 yX0_partOver ∈ gtbl := tg (tb_4 (List.mem_of_getElem? (i := 155) rfl)) rfl
theorem ml_RX0_111 : Cond.methodLink RX0 111 yX0_addCase ∈ gtbl := tg (tb_4 (List.mem_of_getElem? (i := 159) rfl)) rfl
theorem ml_RX1_42 : Cond.methodLink RX1 42 yX0_build ∈ gtbl := tg (tb_4 (List.mem_of_getElem? (i := 131) rfl)) rfl
theorem ml_RX1_47 : Cond.methodLink RX1 47 yX1_fill ∈ gtbl := tg (tb_4 (List.mem_of_getElem? (i := 163) rfl)) rfl
theorem ml_RX1_51 : Cond.methodLink RX1 51 yX1_prepare ∈ gtbl := tg (tb_4 (List.mem_of_getElem? (i := 127) rfl)) rfl
theorem ml_RX1_58 : Cond.methodLink RX1 58 yX1_leastOfCases ∈ gtbl := tg (tb_4 (List.mem_of_getElem? (i := 167) rfl)) rfl
theorem ml_RX1_62 : Cond.methodLink RX1 62 yX1_relax ∈ gtbl := tg (tb_4 (List.mem_of_getElem? (i := 192) rfl)) rfl
theorem ml_RX1_66 : Cond.methodLink RX1 66 yX0_caseStart ∈ gtbl := tg (tb_4 (List.mem_of_getElem? (i := 171) rfl)) rfl
theorem ml_RX1_70 : Cond.methodLink RX1 70 yX0_caseEnd ∈ gtbl := tg (tb_4 (List.mem_of_getElem? (i := 175) rfl)) rfl
theorem ml_RX1_76 : Cond.methodLink RX1 76 yX0_goesOn ∈ gtbl := tg (tb_4 (List.mem_of_getElem? (i := 179) rfl)) rfl
theorem ml_RX1_91 : Cond.methodLink RX1 91 yX1_join ∈ gtbl := tg (tb_4 (List.mem_of_getElem? (i := 183) rfl)) rfl
theorem ml_RX1_95 : Cond.methodLink RX1 95 yX1_lesser ∈ gtbl := tg (tb_4 (List.mem_of_getElem? (i := 189) rfl)) rfl
theorem ml_RX1_109 : Cond.methodLink RX1 109 Lib.Math.max.name ∈ gtbl := tg (tb_4 (List.mem_of_getElem? (i := 186) rfl)) rfl
theorem ml_RX1_114 : Cond.methodLink RX1 114 yX1_has ∈ gtbl := tg (tb_4 (List.mem_of_getElem? (i := 200) rfl)) rfl
theorem ml_RX1_117 : Cond.methodLink RX1 117 yX1_isFull ∈ gtbl := tg (tb_5 (List.mem_of_getElem? (i := 233) rfl)) rfl
theorem ml_RX1_123 : Cond.methodLink RX1 123 yX0_itemCount ∈ gtbl := tg (tb_4 (List.mem_of_getElem? (i := 196) rfl)) rfl
theorem ml_RX1_130 : Cond.methodLink RX1 130 yX1_putInOrder ∈ gtbl := tg (tb_6 (List.mem_of_getElem? (i := 6) rfl)) rfl
theorem ml_RX10_43 : Cond.methodLink RX10 43 yX10_push ∈ gtbl := tg (tb_6 (List.mem_of_getElem? (i := 91) rfl)) rfl
theorem ml_RX10_47 : Cond.methodLink RX10 47 Lib.Math.max.name ∈ gtbl := tg (tb_6 (List.mem_of_getElem? (i := 95) rfl)) rfl
theorem ml_RX10_53 : Cond.methodLink RX10 53 yX3_rightTree ∈ gtbl := tg (tb_6 (List.mem_of_getElem? (i := 96) rfl)) rfl
theorem ml_RX10_59 : Cond.methodLink RX10 59 yX10_pushTree ∈ gtbl := tg (tb_6 (List.mem_of_getElem? (i := 100) rfl)) rfl
theorem ml_RX10_62 : Cond.methodLink RX10 62 yX3_leftTree ∈ gtbl := tg (tb_6 (List.mem_of_getElem? (i := 104) rfl)) rfl
theorem ml_RX10_73 : Cond.methodLink RX10 73 yX10_caseAt ∈ gtbl := tg (tb_6 (List.mem_of_getElem? (i := 116) rfl)) rfl
theorem ml_RX10_79 : Cond.methodLink RX10 79 yX0_beginOf ∈ gtbl := tg (tb_6 (List.mem_of_getElem? (i := 132) rfl)) rfl
theorem ml_RX10_82 : Cond.methodLink RX10 82 yX0_finishOf ∈ gtbl := tg (tb_6 (List.mem_of_getElem? (i := 141) rfl)) rfl
theorem ml_RX10_85 : Cond.methodLink RX10 85 Lib.Math.min.name ∈ gtbl := tg (tb_6 (List.mem_of_getElem? (i := 209) rfl)) rfl
theorem ml_RX10_91 : Cond.methodLink RX10 91 yX10_put ∈ gtbl := tg (tb_6 (List.mem_of_getElem? (i := 150) rfl)) rfl
theorem ml_RX10_95 : Cond.methodLink RX10 95 yX10_open ∈ gtbl := tg (tb_6 (List.mem_of_getElem? (i := 154) rfl)) rfl
theorem ml_RX10_106 : Cond.methodLink RX10 106 yX10_pushPart ∈ gtbl := tg (tb_6 (List.mem_of_getElem? (i := 158) rfl)) rfl
theorem ml_RX11_110 : Cond.methodLink RX11 110 yX11_putFour ∈ gtbl := tg (tb_3 (List.mem_of_getElem? (i := 153) rfl)) rfl
theorem ml_RX11_114 : Cond.methodLink RX11 114 yX6_read ∈ gtbl := tg (tb_3 (List.mem_of_getElem? (i := 165) rfl)) rfl
theorem ml_RX11_123 : Cond.methodLink RX11 123 yX4_take ∈ gtbl := tg (tb_4 (List.mem_of_getElem? (i := 46) rfl)) rfl
theorem ml_RX11_126 : Cond.methodLink RX11 126 yX11_forgetCases ∈ gtbl := tg (tb_4 (List.mem_of_getElem? (i := 50) rfl)) rfl
theorem ml_RX11_135 : Cond.methodLink RX11 135 yX11_lettersAlone ∈ gtbl := tg (tb_4 (List.mem_of_getElem? (i := 105) rfl)) rfl
theorem ml_RX11_139 : Cond.methodLink RX11 139 yX0_hear ∈ gtbl := tg (tb_4 (List.mem_of_getElem? (i := 110) rfl)) rfl
theorem ml_RX11_143 : Cond.methodLink RX11 143 yX6_isSmall ∈ gtbl := tg (tb_4 (List.mem_of_getElem? (i := 109) rfl)) rfl
theorem ml_RX11_149 : Cond.methodLink RX11 149 yX4_start ∈ gtbl := tg (tb_4 (List.mem_of_getElem? (i := 119) rfl)) rfl
theorem ml_RX11_162 : Cond.methodLink RX11 162 yX1_itemsWithTrees ∈ gtbl := tg (tb_4 (List.mem_of_getElem? (i := 123) rfl)) rfl
theorem ml_RX11_168 : Cond.methodLink RX11 168 yX4_rulesIn ∈ gtbl := tg (tb_4 (List.mem_of_getElem? (i := 204) rfl)) rfl
theorem ml_RX11_171 : Cond.methodLink RX11 171 yX4_knows ∈ gtbl := tg (tb_4 (List.mem_of_getElem? (i := 212) rfl)) rfl
theorem ml_RX11_193 : Cond.methodLink RX11 193 yX4_isElement ∈ gtbl := tg (tb_4 (List.mem_of_getElem? (i := 220) rfl)) rfl
theorem ml_RX11_196 : Cond.methodLink RX11 196 yX4_plus ∈ gtbl := tg (tb_4 (List.mem_of_getElem? (i := 224) rfl)) rfl
theorem ml_RX11_200 : Cond.methodLink RX11 200 yX4_times ∈ gtbl := tg (tb_4 (List.mem_of_getElem? (i := 228) rfl)) rfl
theorem ml_RX11_203 : Cond.methodLink RX11 203 yX11_forgetCosts ∈ gtbl := tg (tb_4 (List.mem_of_getElem? (i := 66) rfl)) rfl
theorem ml_RX11_206 : Cond.methodLink RX11 206 yX9_forget ∈ gtbl := tg (tb_4 (List.mem_of_getElem? (i := 62) rfl)) rfl
theorem ml_RX11_209 : Cond.methodLink RX11 209 yX0_forget ∈ gtbl := tg (tb_4 (List.mem_of_getElem? (i := 54) rfl)) rfl
theorem ml_RX11_210 : Cond.methodLink RX11 210 yX2_forget ∈ gtbl := tg (tb_4 (List.mem_of_getElem? (i := 58) rfl)) rfl
theorem ml_RX11_211 : Cond.methodLink RX11 211 yX1_forget ∈ gtbl := tg (tb_4 (List.mem_of_getElem? (i := 70) rfl)) rfl
theorem ml_RX11_212 : Cond.methodLink RX11 212 yX7_forget ∈ gtbl := tg (tb_4 (List.mem_of_getElem? (i := 74) rfl)) rfl
theorem ml_RX11_213 : Cond.methodLink RX11 213 yX3_forget ∈ gtbl := tg (tb_4 (List.mem_of_getElem? (i := 78) rfl)) rfl
theorem ml_RX11_214 : Cond.methodLink RX11 214 yX8_forget ∈ gtbl := tg (tb_4 (List.mem_of_getElem? (i := 82) rfl)) rfl
theorem ml_RX11_215 : Cond.methodLink RX11 215 yX5_forget ∈ gtbl := tg (tb_4 (List.mem_of_getElem? (i := 92) rfl)) rfl
theorem ml_RX11_216 : Cond.methodLink RX11 216 yX0_build ∈ gtbl := tg (tb_5 (List.mem_of_getElem? (i := 12) rfl)) rfl
theorem ml_RX11_219 : Cond.methodLink RX11 219 yX0_itemAt ∈ gtbl := tg (tb_5 (List.mem_of_getElem? (i := 13) rfl)) rfl
theorem ml_RX11_223 : Cond.methodLink RX11 223 yX11_itemOf ∈ gtbl := tg (tb_5 (List.mem_of_getElem? (i := 8) rfl)) rfl
theorem ml_RX11_226 : Cond.methodLink RX11 226 yX1_lowestOf ∈ gtbl := tg (tb_5 (List.mem_of_getElem? (i := 17) rfl)) rfl
theorem ml_RX11_232 : Cond.methodLink RX11 232 yX2_treesOf ∈ gtbl := tg (tb_5 (List.mem_of_getElem? (i := 30) rfl)) rfl
theorem ml_RX11_236 : Cond.methodLink RX11 236 yX11_tellNumber ∈ gtbl := tg (tb_5 (List.mem_of_getElem? (i := 78) rfl)) rfl
theorem ml_RX11_244 : Cond.methodLink RX11 244 yX1_mildestOf ∈ gtbl := tg (tb_5 (List.mem_of_getElem? (i := 87) rfl)) rfl
theorem ml_RX11_247 : Cond.methodLink RX11 247 yX2_inSome ∈ gtbl := tg (tb_5 (List.mem_of_getElem? (i := 95) rfl)) rfl
theorem ml_RX11_250 : Cond.methodLink RX11 250 yX2_inEach ∈ gtbl := tg (tb_5 (List.mem_of_getElem? (i := 112) rfl)) rfl
theorem ml_RX11_253 : Cond.methodLink RX11 253 yX7_sumOf ∈ gtbl := tg (tb_5 (List.mem_of_getElem? (i := 120) rfl)) rfl
theorem ml_RX11_256 : Cond.methodLink RX11 256 yX9_valueOf ∈ gtbl := tg (tb_5 (List.mem_of_getElem? (i := 165) rfl)) rfl
theorem ml_RX11_259 : Cond.methodLink RX11 259 yX9_roundsTaken ∈ gtbl := tg (tb_5 (List.mem_of_getElem? (i := 199) rfl)) rfl
theorem ml_RX11_262 : Cond.methodLink RX11 262 yX9_lawsKept ∈ gtbl := tg (tb_5 (List.mem_of_getElem? (i := 204) rfl)) rfl
theorem ml_RX11_265 : Cond.methodLink RX11 265 yX0_caseEnd ∈ gtbl := tg (tb_5 (List.mem_of_getElem? (i := 227) rfl)) rfl
theorem ml_RX11_268 : Cond.methodLink RX11 268 yX0_caseStart ∈ gtbl := tg (tb_5 (List.mem_of_getElem? (i := 228) rfl)) rfl
theorem ml_RX11_271 : Cond.methodLink RX11 271 yX1_fullCases ∈ gtbl := tg (tb_5 (List.mem_of_getElem? (i := 229) rfl)) rfl
theorem ml_RX11_274 : Cond.methodLink RX11 274 yX1_casesAround ∈ gtbl := tg (tb_5 (List.mem_of_getElem? (i := 234) rfl)) rfl
theorem ml_RX11_277 : Cond.methodLink RX11 277 yX1_itemInOrder ∈ gtbl := tg (tb_6 (List.mem_of_getElem? (i := 2) rfl)) rfl
theorem ml_RX11_280 : Cond.methodLink RX11 280 yX0_beginOf ∈ gtbl := tg (tb_6 (List.mem_of_getElem? (i := 10) rfl)) rfl
theorem ml_RX11_283 : Cond.methodLink RX11 283 yX0_finishOf ∈ gtbl := tg (tb_6 (List.mem_of_getElem? (i := 14) rfl)) rfl
theorem ml_RX11_286 : Cond.methodLink RX11 286 yX11_isPlace ∈ gtbl := tg (tb_6 (List.mem_of_getElem? (i := 22) rfl)) rfl
theorem ml_RX11_289 : Cond.methodLink RX11 289 yX3_treeOf ∈ gtbl := tg (tb_6 (List.mem_of_getElem? (i := 25) rfl)) rfl
theorem ml_RX11_295 : Cond.methodLink RX11 295 yX10_follow ∈ gtbl := tg (tb_6 (List.mem_of_getElem? (i := 87) rfl)) rfl
theorem ml_RX11_304 : Cond.methodLink RX11 304 yX10_ruleOf ∈ gtbl := tg (tb_6 (List.mem_of_getElem? (i := 112) rfl)) rfl
theorem ml_RX11_307 : Cond.methodLink RX11 307 yX11_wholeItem ∈ gtbl := tg (tb_6 (List.mem_of_getElem? (i := 124) rfl)) rfl
theorem ml_RX11_310 : Cond.methodLink RX11 310 yX10_beginOf ∈ gtbl := tg (tb_6 (List.mem_of_getElem? (i := 128) rfl)) rfl
theorem ml_RX11_311 : Cond.methodLink RX11 311 yX10_middleOf ∈ gtbl := tg (tb_6 (List.mem_of_getElem? (i := 133) rfl)) rfl
theorem ml_RX11_314 : Cond.methodLink RX11 314 yX10_finishOf ∈ gtbl := tg (tb_6 (List.mem_of_getElem? (i := 137) rfl)) rfl
theorem ml_RX11_315 : Cond.methodLink RX11 315 yX10_write ∈ gtbl := tg (tb_6 (List.mem_of_getElem? (i := 146) rfl)) rfl
theorem ml_RX11_319 : Cond.methodLink RX11 319 yX8_upTo ∈ gtbl := tg (tb_6 (List.mem_of_getElem? (i := 170) rfl)) rfl
theorem ml_RX11_323 : Cond.methodLink RX11 323 yX10_alikeWith ∈ gtbl := tg (tb_6 (List.mem_of_getElem? (i := 205) rfl)) rfl
theorem ml_RX11_327 : Cond.methodLink RX11 327 yX1_lowestWithout ∈ gtbl := tg (tb_6 (List.mem_of_getElem? (i := 214) rfl)) rfl
theorem ml_RX11_330 : Cond.methodLink RX11 330 yX5_prepare ∈ gtbl := tg (tb_6 (List.mem_of_getElem? (i := 226) rfl)) rfl
theorem ml_RX11_345 : Cond.methodLink RX11 345 yX4_labelsOnRings ∈ gtbl := tg (tb_7 (List.mem_of_getElem? (i := 35) rfl)) rfl
theorem ml_RX11_348 : Cond.methodLink RX11 348 yX4_rulesAlive ∈ gtbl := tg (tb_7 (List.mem_of_getElem? (i := 44) rfl)) rfl
theorem ml_RX12_148 : Cond.methodLink RX12 148 yX12_in ∈ gtbl := tg (tb_8 (List.mem_of_getElem? (i := 34) rfl)) rfl
theorem ml_RX12_158 : Cond.methodLink RX12 158 yX12_see ∈ gtbl := tg (tb_8 (List.mem_of_getElem? (i := 45) rfl)) rfl
theorem ml_RX12_179 : Cond.methodLink RX12 179 Lib.Math.min.name ∈ gtbl := tg (tb_8 (List.mem_of_getElem? (i := 53) rfl)) rfl
theorem ml_RX12_192 : Cond.methodLink RX12 192 yX12_good ∈ gtbl := tg (tb_8 (List.mem_of_getElem? (i := 56) rfl)) rfl
theorem ml_RX12_196 : Cond.methodLink RX12 196 yJ0_length_8abf5 ∈ gtbl := tg (tb_8 (List.mem_of_getElem? (i := 65) rfl)) rfl
theorem ml_RX12_201 : Cond.methodLink RX12 201 yJ0_charAt_5068e ∈ gtbl := tg (tb_8 (List.mem_of_getElem? (i := 66) rfl)) rfl
theorem ml_RX12_205 : Cond.methodLink RX12 205 yX12_is ∈ gtbl := tg (tb_8 (List.mem_of_getElem? (i := 61) rfl)) rfl
theorem ml_RX12_209 : Cond.methodLink RX12 209 yX12_errs ∈ gtbl := tg (tb_8 (List.mem_of_getElem? (i := 75) rfl)) rfl
theorem ml_RX12_213 : Cond.methodLink RX12 213 yX12_advance ∈ gtbl := tg (tb_8 (List.mem_of_getElem? (i := 41) rfl)) rfl
theorem ml_RX12_216 : Cond.methodLink RX12 216 yX12_takes ∈ gtbl := tg (tb_8 (List.mem_of_getElem? (i := 71) rfl)) rfl
theorem ml_RX12_220 : Cond.methodLink RX12 220 yX12_takesWord ∈ gtbl := tg (tb_8 (List.mem_of_getElem? (i := 80) rfl)) rfl
theorem ml_RX12_227 : Cond.methodLink RX12 227 yX12_isPart ∈ gtbl := tg (tb_8 (List.mem_of_getElem? (i := 100) rfl)) rfl
theorem ml_RX12_233 : Cond.methodLink RX12 233 yX12_takesSign ∈ gtbl := tg (tb_8 (List.mem_of_getElem? (i := 92) rfl)) rfl
theorem ml_RX12_236 : Cond.methodLink RX12 236 yX12_readPart ∈ gtbl := tg (tb_8 (List.mem_of_getElem? (i := 96) rfl)) rfl
theorem ml_RX12_244 : Cond.methodLink RX12 244 yX12_readTable ∈ gtbl := tg (tb_8 (List.mem_of_getElem? (i := 67) rfl)) rfl
theorem ml_RX12_249 : Cond.methodLink RX12 249 yX12_readRule ∈ gtbl := tg (tb_8 (List.mem_of_getElem? (i := 88) rfl)) rfl
theorem ml_RX12_262 : Cond.methodLink RX12 262 yX12_isRule ∈ gtbl := tg (tb_8 (List.mem_of_getElem? (i := 118) rfl)) rfl
theorem ml_RX12_266 : Cond.methodLink RX12 266 yX12_isElement ∈ gtbl := tg (tb_8 (List.mem_of_getElem? (i := 126) rfl)) rfl
theorem ml_RX12_269 : Cond.methodLink RX12 269 yX12_sum2 ∈ gtbl := tg (tb_8 (List.mem_of_getElem? (i := 130) rfl)) rfl
theorem ml_RX12_272 : Cond.methodLink RX12 272 yX12_product2 ∈ gtbl := tg (tb_8 (List.mem_of_getElem? (i := 134) rfl)) rfl
theorem ml_RX12_282 : Cond.methodLink RX12 282 yX12_item ∈ gtbl := tg (tb_8 (List.mem_of_getElem? (i := 186) rfl)) rfl
theorem ml_RX12_287 : Cond.methodLink RX12 287 yX12_fits ∈ gtbl := tg (tb_8 (List.mem_of_getElem? (i := 182) rfl)) rfl
theorem ml_RX12_291 : Cond.methodLink RX12 291 yX12_leastPart ∈ gtbl := tg (tb_8 (List.mem_of_getElem? (i := 189) rfl)) rfl
theorem ml_RX12_294 : Cond.methodLink RX12 294 yX12_lowers ∈ gtbl := tg (tb_8 (List.mem_of_getElem? (i := 193) rfl)) rfl
theorem ml_RX12_298 : Cond.methodLink RX12 298 yX12_isIn ∈ gtbl := tg (tb_8 (List.mem_of_getElem? (i := 174) rfl)) rfl
theorem ml_RX12_301 : Cond.methodLink RX12 301 yX12_laysTwos ∈ gtbl := tg (tb_8 (List.mem_of_getElem? (i := 178) rfl)) rfl
theorem ml_RX12_308 : Cond.methodLink RX12 308 yX12_laysSpan ∈ gtbl := tg (tb_8 (List.mem_of_getElem? (i := 170) rfl)) rfl
theorem ml_RX12_312 : Cond.methodLink RX12 312 yX12_laysLeast ∈ gtbl := tg (tb_8 (List.mem_of_getElem? (i := 165) rfl)) rfl
theorem ml_RX12_318 : Cond.methodLink RX12 318 yX12_isItem ∈ gtbl := tg (tb_8 (List.mem_of_getElem? (i := 156) rfl)) rfl
theorem ml_RX12_321 : Cond.methodLink RX12 321 yX12_looks ∈ gtbl := tg (tb_8 (List.mem_of_getElem? (i := 161) rfl)) rfl
theorem ml_RX12_324 : Cond.methodLink RX12 324 yX12_has ∈ gtbl := tg (tb_8 (List.mem_of_getElem? (i := 197) rfl)) rfl
theorem ml_RX12_329 : Cond.methodLink RX12 329 Lib.MathLoose.min_long.x ∈ gtbl := tg (tb_9 (List.mem_of_getElem? (i := 7) rfl)) rfl
theorem ml_RX12_334 : Cond.methodLink RX12 334 yX12_isSingle ∈ gtbl := tg (tb_8 (List.mem_of_getElem? (i := 222) rfl)) rfl
theorem ml_RX12_337 : Cond.methodLink RX12 337 yX12_isEndlessPart ∈ gtbl := tg (tb_8 (List.mem_of_getElem? (i := 230) rfl)) rfl
theorem ml_RX12_340 : Cond.methodLink RX12 340 yX12_laysEndlessSpan ∈ gtbl := tg (tb_8 (List.mem_of_getElem? (i := 214) rfl)) rfl
theorem ml_RX12_343 : Cond.methodLink RX12 343 yX12_ringsAt ∈ gtbl := tg (tb_8 (List.mem_of_getElem? (i := 218) rfl)) rfl
theorem ml_RX12_346 : Cond.methodLink RX12 346 yX12_goesOn ∈ gtbl := tg (tb_8 (List.mem_of_getElem? (i := 226) rfl)) rfl
theorem ml_RX12_349 : Cond.methodLink RX12 349 yX12_waysItem ∈ gtbl := tg (tb_8 (List.mem_of_getElem? (i := 235) rfl)) rfl
theorem ml_RX12_353 : Cond.methodLink RX12 353 yX12_waysPart ∈ gtbl := tg (tb_8 (List.mem_of_getElem? (i := 239) rfl)) rfl
theorem ml_RX12_356 : Cond.methodLink RX12 356 yX12_plusGreat ∈ gtbl := tg (tb_9 (List.mem_of_getElem? (i := 3) rfl)) rfl
theorem ml_RX12_359 : Cond.methodLink RX12 359 yX12_timesGreat ∈ gtbl := tg (tb_9 (List.mem_of_getElem? (i := 10) rfl)) rfl
theorem ml_RX12_364 : Cond.methodLink RX12 364 yX12_laysEndless ∈ gtbl := tg (tb_8 (List.mem_of_getElem? (i := 210) rfl)) rfl
theorem ml_RX12_371 : Cond.methodLink RX12 371 yX12_dearPart ∈ gtbl := tg (tb_9 (List.mem_of_getElem? (i := 27) rfl)) rfl
theorem ml_RX12_374 : Cond.methodLink RX12 374 Lib.Math.max.name ∈ gtbl := tg (tb_9 (List.mem_of_getElem? (i := 31) rfl)) rfl
theorem ml_RX12_377 : Cond.methodLink RX12 377 yX12_lowersDear ∈ gtbl := tg (tb_9 (List.mem_of_getElem? (i := 23) rfl)) rfl
theorem ml_RX12_380 : Cond.methodLink RX12 380 yX12_laysDear ∈ gtbl := tg (tb_9 (List.mem_of_getElem? (i := 19) rfl)) rfl
theorem ml_RX12_383 : Cond.methodLink RX12 383 yX12_meets ∈ gtbl := tg (tb_9 (List.mem_of_getElem? (i := 36) rfl)) rfl
theorem ml_RX12_389 : Cond.methodLink RX12 389 yX12_meetsPart ∈ gtbl := tg (tb_9 (List.mem_of_getElem? (i := 40) rfl)) rfl
theorem ml_RX12_394 : Cond.methodLink RX12 394 yX12_span ∈ gtbl := tg (tb_9 (List.mem_of_getElem? (i := 64) rfl)) rfl
theorem ml_RX12_397 : Cond.methodLink RX12 397 yX12_rowOf ∈ gtbl := tg (tb_9 (List.mem_of_getElem? (i := 56) rfl)) rfl
theorem ml_RX12_400 : Cond.methodLink RX12 400 yX12_failsPart ∈ gtbl := tg (tb_9 (List.mem_of_getElem? (i := 60) rfl)) rfl
theorem ml_RX12_403 : Cond.methodLink RX12 403 yX12_sumPart ∈ gtbl := tg (tb_9 (List.mem_of_getElem? (i := 67) rfl)) rfl
theorem ml_RX12_409 : Cond.methodLink RX12 409 yX12_power ∈ gtbl := tg (tb_9 (List.mem_of_getElem? (i := 76) rfl)) rfl
theorem ml_RX12_413 : Cond.methodLink RX12 413 yX12_brings ∈ gtbl := tg (tb_9 (List.mem_of_getElem? (i := 52) rfl)) rfl
theorem ml_RX12_416 : Cond.methodLink RX12 416 yX12_clears ∈ gtbl := tg (tb_9 (List.mem_of_getElem? (i := 72) rfl)) rfl
theorem ml_RX12_419 : Cond.methodLink RX12 419 yX12_laysSums ∈ gtbl := tg (tb_9 (List.mem_of_getElem? (i := 48) rfl)) rfl
theorem ml_RX12_422 : Cond.methodLink RX12 422 yX12_isLetterAt ∈ gtbl := tg (tb_9 (List.mem_of_getElem? (i := 95) rfl)) rfl
theorem ml_RX12_425 : Cond.methodLink RX12 425 yX12_valuePart ∈ gtbl := tg (tb_9 (List.mem_of_getElem? (i := 99) rfl)) rfl
theorem ml_RX12_428 : Cond.methodLink RX12 428 yX12_valueAnew ∈ gtbl := tg (tb_9 (List.mem_of_getElem? (i := 91) rfl)) rfl
theorem ml_RX12_434 : Cond.methodLink RX12 434 yX12_turnsOnce ∈ gtbl := tg (tb_9 (List.mem_of_getElem? (i := 87) rfl)) rfl
theorem ml_RX12_437 : Cond.methodLink RX12 437 yX12_settles ∈ gtbl := tg (tb_9 (List.mem_of_getElem? (i := 83) rfl)) rfl
theorem ml_RX12_440 : Cond.methodLink RX12 440 yX12_keeps ∈ gtbl := tg (tb_9 (List.mem_of_getElem? (i := 115) rfl)) rfl
theorem ml_RX12_443 : Cond.methodLink RX12 443 yX12_keepsThree ∈ gtbl := tg (tb_9 (List.mem_of_getElem? (i := 119) rfl)) rfl
theorem ml_RX12_446 : Cond.methodLink RX12 446 yX12_holds ∈ gtbl := tg (tb_9 (List.mem_of_getElem? (i := 111) rfl)) rfl
theorem ml_RX12_450 : Cond.methodLink RX12 450 yX12_isAt ∈ gtbl := tg (tb_9 (List.mem_of_getElem? (i := 132) rfl)) rfl
theorem ml_RX12_456 : Cond.methodLink RX12 456 yX12_casesWith ∈ gtbl := tg (tb_9 (List.mem_of_getElem? (i := 128) rfl)) rfl
theorem ml_RX12_459 : Cond.methodLink RX12 459 yX12_casesOf ∈ gtbl := tg (tb_9 (List.mem_of_getElem? (i := 136) rfl)) rfl
theorem ml_RX12_467 : Cond.methodLink RX12 467 yX12_itemsMany ∈ gtbl := tg (tb_9 (List.mem_of_getElem? (i := 145) rfl)) rfl
theorem ml_RX12_474 : Cond.methodLink RX12 474 yX12_order ∈ gtbl := tg (tb_9 (List.mem_of_getElem? (i := 150) rfl)) rfl
theorem ml_RX12_486 : Cond.methodLink RX12 486 yX12_costNode ∈ gtbl := tg (tb_9 (List.mem_of_getElem? (i := 186) rfl)) rfl
theorem ml_RX12_489 : Cond.methodLink RX12 489 yX12_stepsNode ∈ gtbl := tg (tb_9 (List.mem_of_getElem? (i := 190) rfl)) rfl
theorem ml_RX12_492 : Cond.methodLink RX12 492 yX12_deepNode ∈ gtbl := tg (tb_9 (List.mem_of_getElem? (i := 194) rfl)) rfl
theorem ml_RX12_495 : Cond.methodLink RX12 495 yX12_formOf ∈ gtbl := tg (tb_9 (List.mem_of_getElem? (i := 206) rfl)) rfl
theorem ml_RX12_498 : Cond.methodLink RX12 498 yX12_isAhead ∈ gtbl := tg (tb_9 (List.mem_of_getElem? (i := 202) rfl)) rfl
theorem ml_RX12_501 : Cond.methodLink RX12 501 yX12_takesNode ∈ gtbl := tg (tb_9 (List.mem_of_getElem? (i := 210) rfl)) rfl
theorem ml_RX12_504 : Cond.methodLink RX12 504 yX12_manyOf ∈ gtbl := tg (tb_9 (List.mem_of_getElem? (i := 174) rfl)) rfl
theorem ml_RX12_507 : Cond.methodLink RX12 507 yX12_nodeOf ∈ gtbl := tg (tb_9 (List.mem_of_getElem? (i := 178) rfl)) rfl
theorem ml_RX12_511 : Cond.methodLink RX12 511 yX12_writes ∈ gtbl := tg (tb_9 (List.mem_of_getElem? (i := 182) rfl)) rfl
theorem ml_RX12_515 : Cond.methodLink RX12 515 yX12_comes ∈ gtbl := tg (tb_9 (List.mem_of_getElem? (i := 198) rfl)) rfl
theorem ml_RX12_521 : Cond.methodLink RX12 521 yX12_laysTwoBest ∈ gtbl := tg (tb_9 (List.mem_of_getElem? (i := 170) rfl)) rfl
theorem ml_RX12_524 : Cond.methodLink RX12 524 yX12_waits ∈ gtbl := tg (tb_9 (List.mem_of_getElem? (i := 214) rfl)) rfl
theorem ml_RX12_527 : Cond.methodLink RX12 527 yX12_firstPending ∈ gtbl := tg (tb_9 (List.mem_of_getElem? (i := 218) rfl)) rfl
theorem ml_RX12_530 : Cond.methodLink RX12 530 yX12_laysBestSpan ∈ gtbl := tg (tb_9 (List.mem_of_getElem? (i := 166) rfl)) rfl
theorem ml_RX12_533 : Cond.methodLink RX12 533 yX12_isPlace ∈ gtbl := tg (tb_9 (List.mem_of_getElem? (i := 159) rfl)) rfl
theorem ml_RX12_536 : Cond.methodLink RX12 536 yX12_laysBest ∈ gtbl := tg (tb_9 (List.mem_of_getElem? (i := 162) rfl)) rfl
theorem ml_RX12_539 : Cond.methodLink RX12 539 yX12_treeOf ∈ gtbl := tg (tb_9 (List.mem_of_getElem? (i := 222) rfl)) rfl
theorem ml_RX12_542 : Cond.methodLink RX12 542 yX12_stepOf ∈ gtbl := tg (tb_9 (List.mem_of_getElem? (i := 234) rfl)) rfl
theorem ml_RX12_545 : Cond.methodLink RX12 545 yX12_start ∈ gtbl := tg (tb_10 (List.mem_of_getElem? (i := 2) rfl)) rfl
theorem ml_RX12_548 : Cond.methodLink RX12 548 yX12_areAlike ∈ gtbl := tg (tb_10 (List.mem_of_getElem? (i := 10) rfl)) rfl
theorem ml_RX12_554 : Cond.methodLink RX12 554 yX12_puts ∈ gtbl := tg (tb_10 (List.mem_of_getElem? (i := 22) rfl)) rfl
theorem ml_RX12_557 : Cond.methodLink RX12 557 yX12_tells ∈ gtbl := tg (tb_10 (List.mem_of_getElem? (i := 18) rfl)) rfl
theorem ml_RX12_560 : Cond.methodLink RX12 560 yX12_tellsPart ∈ gtbl := tg (tb_10 (List.mem_of_getElem? (i := 26) rfl)) rfl
theorem ml_RX12_563 : Cond.methodLink RX12 563 yX12_cheapPart ∈ gtbl := tg (tb_10 (List.mem_of_getElem? (i := 43) rfl)) rfl
theorem ml_RX12_566 : Cond.methodLink RX12 566 yX12_cheapTwos ∈ gtbl := tg (tb_10 (List.mem_of_getElem? (i := 47) rfl)) rfl
theorem ml_RX12_571 : Cond.methodLink RX12 571 yX12_laysCheap ∈ gtbl := tg (tb_10 (List.mem_of_getElem? (i := 39) rfl)) rfl
theorem ml_RX12_574 : Cond.methodLink RX12 574 yX12_leastOfAll ∈ gtbl := tg (tb_10 (List.mem_of_getElem? (i := 55) rfl)) rfl
theorem ml_RX12_586 : Cond.methodLink RX12 586 yX12_laysMends ∈ gtbl := tg (tb_10 (List.mem_of_getElem? (i := 67) rfl)) rfl
theorem ml_RX12_589 : Cond.methodLink RX12 589 yX12_isOf ∈ gtbl := tg (tb_10 (List.mem_of_getElem? (i := 83) rfl)) rfl
theorem ml_RX12_592 : Cond.methodLink RX12 592 yJ13_bitCount_95d88 ∈ gtbl := tg (tb_10 (List.mem_of_getElem? (i := 90) rfl)) rfl
theorem ml_RX2_43 : Cond.methodLink RX2 43 yX1_prepare ∈ gtbl := tg (tb_5 (List.mem_of_getElem? (i := 34) rfl)) rfl
theorem ml_RX2_54 : Cond.methodLink RX2 54 yX2_countSpan ∈ gtbl := tg (tb_5 (List.mem_of_getElem? (i := 35) rfl)) rfl
theorem ml_RX2_58 : Cond.methodLink RX2 58 yX2_countCases ∈ gtbl := tg (tb_5 (List.mem_of_getElem? (i := 39) rfl)) rfl
theorem ml_RX2_62 : Cond.methodLink RX2 62 yX2_labelsThatGoOn ∈ gtbl := tg (tb_5 (List.mem_of_getElem? (i := 65) rfl)) rfl
theorem ml_RX2_66 : Cond.methodLink RX2 66 yX2_targets ∈ gtbl := tg (tb_5 (List.mem_of_getElem? (i := 69) rfl)) rfl
theorem ml_RX2_70 : Cond.methodLink RX2 70 yX2_addTargets ∈ gtbl := tg (tb_5 (List.mem_of_getElem? (i := 74) rfl)) rfl
theorem ml_RX2_76 : Cond.methodLink RX2 76 yX0_caseStart ∈ gtbl := tg (tb_5 (List.mem_of_getElem? (i := 43) rfl)) rfl
theorem ml_RX2_79 : Cond.methodLink RX2 79 yX0_caseEnd ∈ gtbl := tg (tb_5 (List.mem_of_getElem? (i := 44) rfl)) rfl
theorem ml_RX2_82 : Cond.methodLink RX2 82 yX0_goesOn ∈ gtbl := tg (tb_5 (List.mem_of_getElem? (i := 45) rfl)) rfl
theorem ml_RX2_86 : Cond.methodLink RX2 86 yX1_isFull ∈ gtbl := tg (tb_5 (List.mem_of_getElem? (i := 46) rfl)) rfl
theorem ml_RX2_96 : Cond.methodLink RX2 96 yX2_endlessProduct ∈ gtbl := tg (tb_5 (List.mem_of_getElem? (i := 50) rfl)) rfl
theorem ml_RX2_100 : Cond.methodLink RX2 100 yX2_endlessSum ∈ gtbl := tg (tb_5 (List.mem_of_getElem? (i := 59) rfl)) rfl
theorem ml_RX2_115 : Cond.methodLink RX2 115 yX1_has ∈ gtbl := tg (tb_5 (List.mem_of_getElem? (i := 73) rfl)) rfl
theorem ml_RX2_118 : Cond.methodLink RX2 118 yX8_add ∈ gtbl := tg (tb_5 (List.mem_of_getElem? (i := 62) rfl)) rfl
theorem ml_RX2_123 : Cond.methodLink RX2 123 yX8_multiply ∈ gtbl := tg (tb_5 (List.mem_of_getElem? (i := 54) rfl)) rfl
theorem ml_RX2_126 : Cond.methodLink RX2 126 yX2_gather ∈ gtbl := tg (tb_5 (List.mem_of_getElem? (i := 99) rfl)) rfl
theorem ml_RX2_130 : Cond.methodLink RX2 130 yX2_gatherCases ∈ gtbl := tg (tb_5 (List.mem_of_getElem? (i := 103) rfl)) rfl
theorem ml_RX2_134 : Cond.methodLink RX2 134 yX2_gatherUnaries ∈ gtbl := tg (tb_5 (List.mem_of_getElem? (i := 108) rfl)) rfl
theorem ml_RX3_64 : Cond.methodLink RX3 64 yX1_prepare ∈ gtbl := tg (tb_6 (List.mem_of_getElem? (i := 29) rfl)) rfl
theorem ml_RX3_69 : Cond.methodLink RX3 69 yX0_isInside ∈ gtbl := tg (tb_6 (List.mem_of_getElem? (i := 30) rfl)) rfl
theorem ml_RX3_75 : Cond.methodLink RX3 75 yX3_growSpan ∈ gtbl := tg (tb_6 (List.mem_of_getElem? (i := 34) rfl)) rfl
theorem ml_RX3_97 : Cond.methodLink RX3 97 yX3_caseOfRule ∈ gtbl := tg (tb_6 (List.mem_of_getElem? (i := 38) rfl)) rfl
theorem ml_RX3_101 : Cond.methodLink RX3 101 yX3_gatherBase ∈ gtbl := tg (tb_6 (List.mem_of_getElem? (i := 44) rfl)) rfl
theorem ml_RX3_105 : Cond.methodLink RX3 105 yX3_takeAllOfBase ∈ gtbl := tg (tb_6 (List.mem_of_getElem? (i := 63) rfl)) rfl
theorem ml_RX3_108 : Cond.methodLink RX3 108 yX3_takeLeast ∈ gtbl := tg (tb_6 (List.mem_of_getElem? (i := 75) rfl)) rfl
theorem ml_RX3_111 : Cond.methodLink RX3 111 yX0_caseStart ∈ gtbl := tg (tb_6 (List.mem_of_getElem? (i := 42) rfl)) rfl
theorem ml_RX3_115 : Cond.methodLink RX3 115 yX0_caseEnd ∈ gtbl := tg (tb_6 (List.mem_of_getElem? (i := 43) rfl)) rfl
theorem ml_RX3_121 : Cond.methodLink RX3 121 yX0_goesOn ∈ gtbl := tg (tb_6 (List.mem_of_getElem? (i := 48) rfl)) rfl
theorem ml_RX3_125 : Cond.methodLink RX3 125 yX1_isFull ∈ gtbl := tg (tb_6 (List.mem_of_getElem? (i := 49) rfl)) rfl
theorem ml_RX3_128 : Cond.methodLink RX3 128 yX3_gatherPairs ∈ gtbl := tg (tb_6 (List.mem_of_getElem? (i := 50) rfl)) rfl
theorem ml_RX3_134 : Cond.methodLink RX3 134 yX3_putInBase ∈ gtbl := tg (tb_6 (List.mem_of_getElem? (i := 54) rfl)) rfl
theorem ml_RX3_138 : Cond.methodLink RX3 138 yX3_isSmaller ∈ gtbl := tg (tb_6 (List.mem_of_getElem? (i := 58) rfl)) rfl
theorem ml_RX3_141 : Cond.methodLink RX3 141 Lib.Math.min.name ∈ gtbl := tg (tb_6 (List.mem_of_getElem? (i := 62) rfl)) rfl
theorem ml_RX3_146 : Cond.methodLink RX3 146 yX3_takeOfBase ∈ gtbl := tg (tb_6 (List.mem_of_getElem? (i := 67) rfl)) rfl
theorem ml_RX3_149 : Cond.methodLink RX3 149 yX3_append ∈ gtbl := tg (tb_6 (List.mem_of_getElem? (i := 71) rfl)) rfl
theorem ml_RX3_153 : Cond.methodLink RX3 153 yX3_findHead ∈ gtbl := tg (tb_6 (List.mem_of_getElem? (i := 79) rfl)) rfl
theorem ml_RX4_56 : Cond.methodLink RX4 56 yX4_isUnary ∈ gtbl := tg (tb_7 (List.mem_of_getElem? (i := 39) rfl)) rfl
theorem ml_RX4_60 : Cond.methodLink RX4 60 yX4_fruitfulLabels ∈ gtbl := tg (tb_7 (List.mem_of_getElem? (i := 48) rfl)) rfl
theorem ml_RX4_64 : Cond.methodLink RX4 64 yX4_start ∈ gtbl := tg (tb_7 (List.mem_of_getElem? (i := 59) rfl)) rfl
theorem ml_RX4_67 : Cond.methodLink RX4 67 yX4_partsWithin ∈ gtbl := tg (tb_7 (List.mem_of_getElem? (i := 52) rfl)) rfl
theorem ml_RX4_71 : Cond.methodLink RX4 71 yX4_labelBit ∈ gtbl := tg (tb_7 (List.mem_of_getElem? (i := 56) rfl)) rfl
theorem ml_RX5_34 : Cond.methodLink RX5 34 yJ7_fill_53178 ∈ gtbl := tg (tb_6 (List.mem_of_getElem? (i := 230) rfl)) rfl
theorem ml_RX5_40 : Cond.methodLink RX5 40 yX1_prepare ∈ gtbl := tg (tb_6 (List.mem_of_getElem? (i := 231) rfl)) rfl
theorem ml_RX5_45 : Cond.methodLink RX5 45 yX5_goDown ∈ gtbl := tg (tb_6 (List.mem_of_getElem? (i := 232) rfl)) rfl
theorem ml_RX5_64 : Cond.methodLink RX5 64 yX5_tryRule ∈ gtbl := tg (tb_7 (List.mem_of_getElem? (i := 10) rfl)) rfl
theorem ml_RX5_68 : Cond.methodLink RX5 68 yX5_choose ∈ gtbl := tg (tb_7 (List.mem_of_getElem? (i := 23) rfl)) rfl
theorem ml_RX5_71 : Cond.methodLink RX5 71 yX5_relax ∈ gtbl := tg (tb_6 (List.mem_of_getElem? (i := 236) rfl)) rfl
theorem ml_RX5_75 : Cond.methodLink RX5 75 yX5_goToParts ∈ gtbl := tg (tb_7 (List.mem_of_getElem? (i := 4) rfl)) rfl
theorem ml_RX5_93 : Cond.methodLink RX5 93 yX5_improve ∈ gtbl := tg (tb_7 (List.mem_of_getElem? (i := 0) rfl)) rfl
theorem ml_RX5_97 : Cond.methodLink RX5 97 yX0_caseStart ∈ gtbl := tg (tb_7 (List.mem_of_getElem? (i := 8) rfl)) rfl
theorem ml_RX5_101 : Cond.methodLink RX5 101 yX0_caseEnd ∈ gtbl := tg (tb_7 (List.mem_of_getElem? (i := 9) rfl)) rfl
theorem ml_RX5_117 : Cond.methodLink RX5 117 yX1_lesser ∈ gtbl := tg (tb_7 (List.mem_of_getElem? (i := 3) rfl)) rfl
theorem ml_RX5_128 : Cond.methodLink RX5 128 yX5_tryLetter ∈ gtbl := tg (tb_7 (List.mem_of_getElem? (i := 14) rfl)) rfl
theorem ml_RX5_132 : Cond.methodLink RX5 132 yX5_partCost ∈ gtbl := tg (tb_7 (List.mem_of_getElem? (i := 18) rfl)) rfl
theorem ml_RX5_136 : Cond.methodLink RX5 136 yX0_itemAt ∈ gtbl := tg (tb_7 (List.mem_of_getElem? (i := 22) rfl)) rfl
theorem ml_RX6_35 : Cond.methodLink RX6 35 yX4_clear ∈ gtbl := tg (tb_3 (List.mem_of_getElem? (i := 169) rfl)) rfl
theorem ml_RX6_38 : Cond.methodLink RX6 38 yX6_advance ∈ gtbl := tg (tb_3 (List.mem_of_getElem? (i := 170) rfl)) rfl
theorem ml_RX6_46 : Cond.methodLink RX6 46 yX6_isWord ∈ gtbl := tg (tb_3 (List.mem_of_getElem? (i := 187) rfl)) rfl
theorem ml_RX6_50 : Cond.methodLink RX6 50 yX6_readRule ∈ gtbl := tg (tb_3 (List.mem_of_getElem? (i := 239) rfl)) rfl
theorem ml_RX6_55 : Cond.methodLink RX6 55 yX6_readTable ∈ gtbl := tg (tb_4 (List.mem_of_getElem? (i := 30) rfl)) rfl
theorem ml_RX6_58 : Cond.methodLink RX6 58 yX6_fail ∈ gtbl := tg (tb_4 (List.mem_of_getElem? (i := 3) rfl)) rfl
theorem ml_RX6_62 : Cond.methodLink RX6 62 yX6_passSign ∈ gtbl := tg (tb_4 (List.mem_of_getElem? (i := 19) rfl)) rfl
theorem ml_RX6_66 : Cond.methodLink RX6 66 yX6_readNumber ∈ gtbl := tg (tb_4 (List.mem_of_getElem? (i := 24) rfl)) rfl
theorem ml_RX6_75 : Cond.methodLink RX6 75 yX6_passWord ∈ gtbl := tg (tb_4 (List.mem_of_getElem? (i := 35) rfl)) rfl
theorem ml_RX6_90 : Cond.methodLink RX6 90 yX6_readRow ∈ gtbl := tg (tb_4 (List.mem_of_getElem? (i := 41) rfl)) rfl
theorem ml_RX6_99 : Cond.methodLink RX6 99 Lib.Math.min.name ∈ gtbl := tg (tb_3 (List.mem_of_getElem? (i := 183) rfl)) rfl
theorem ml_RX6_110 : Cond.methodLink RX6 110 yX6_readPart ∈ gtbl := tg (tb_4 (List.mem_of_getElem? (i := 7) rfl)) rfl
theorem ml_RX6_120 : Cond.methodLink RX6 120 yX6_isLabel ∈ gtbl := tg (tb_4 (List.mem_of_getElem? (i := 11) rfl)) rfl
theorem ml_RX6_124 : Cond.methodLink RX6 124 yX6_isLetter ∈ gtbl := tg (tb_4 (List.mem_of_getElem? (i := 15) rfl)) rfl
theorem ml_RX6_143 : Cond.methodLink RX6 143 yJ0_length_8abf5 ∈ gtbl := tg (tb_3 (List.mem_of_getElem? (i := 191) rfl)) rfl
theorem ml_RX6_148 : Cond.methodLink RX6 148 yJ0_charAt_5068e ∈ gtbl := tg (tb_3 (List.mem_of_getElem? (i := 201) rfl)) rfl
theorem ml_RX6_152 : Cond.methodLink RX6 152 yX6_isBlank ∈ gtbl := tg (tb_3 (List.mem_of_getElem? (i := 174) rfl)) rfl
theorem ml_RX6_156 : Cond.methodLink RX6 156 yX6_isSmall ∈ gtbl := tg (tb_3 (List.mem_of_getElem? (i := 177) rfl)) rfl
theorem ml_RX6_159 : Cond.methodLink RX6 159 yX6_isDigit ∈ gtbl := tg (tb_3 (List.mem_of_getElem? (i := 180) rfl)) rfl
theorem ml_RX7_41 : Cond.methodLink RX7 41 yX1_prepare ∈ gtbl := tg (tb_5 (List.mem_of_getElem? (i := 124) rfl)) rfl
theorem ml_RX7_52 : Cond.methodLink RX7 52 yX7_solveSpan ∈ gtbl := tg (tb_5 (List.mem_of_getElem? (i := 125) rfl)) rfl
theorem ml_RX7_56 : Cond.methodLink RX7 56 yX1_has ∈ gtbl := tg (tb_5 (List.mem_of_getElem? (i := 129) rfl)) rfl
theorem ml_RX7_60 : Cond.methodLink RX7 60 yJ7_fill_53178 ∈ gtbl := tg (tb_5 (List.mem_of_getElem? (i := 130) rfl)) rfl
theorem ml_RX7_66 : Cond.methodLink RX7 66 yX7_setEquation ∈ gtbl := tg (tb_5 (List.mem_of_getElem? (i := 131) rfl)) rfl
theorem ml_RX7_70 : Cond.methodLink RX7 70 yX7_eliminate ∈ gtbl := tg (tb_5 (List.mem_of_getElem? (i := 142) rfl)) rfl
theorem ml_RX7_73 : Cond.methodLink RX7 73 yX0_caseStart ∈ gtbl := tg (tb_5 (List.mem_of_getElem? (i := 135) rfl)) rfl
theorem ml_RX7_77 : Cond.methodLink RX7 77 yX0_caseEnd ∈ gtbl := tg (tb_5 (List.mem_of_getElem? (i := 136) rfl)) rfl
theorem ml_RX7_94 : Cond.methodLink RX7 94 yX1_isFull ∈ gtbl := tg (tb_5 (List.mem_of_getElem? (i := 137) rfl)) rfl
theorem ml_RX7_97 : Cond.methodLink RX7 97 yX0_goesOn ∈ gtbl := tg (tb_5 (List.mem_of_getElem? (i := 138) rfl)) rfl
theorem ml_RX7_100 : Cond.methodLink RX7 100 yJ9_floorMod_7cf53 ∈ gtbl := tg (tb_5 (List.mem_of_getElem? (i := 139) rfl)) rfl
theorem ml_RX7_106 : Cond.methodLink RX7 106 yX7_swapRows ∈ gtbl := tg (tb_5 (List.mem_of_getElem? (i := 146) rfl)) rfl
theorem ml_RX7_110 : Cond.methodLink RX7 110 yX7_inverse ∈ gtbl := tg (tb_5 (List.mem_of_getElem? (i := 150) rfl)) rfl
theorem ml_RX7_113 : Cond.methodLink RX7 113 yX7_scaleRow ∈ gtbl := tg (tb_5 (List.mem_of_getElem? (i := 153) rfl)) rfl
theorem ml_RX7_116 : Cond.methodLink RX7 116 yX7_subtractRow ∈ gtbl := tg (tb_5 (List.mem_of_getElem? (i := 157) rfl)) rfl
theorem ml_RX8_34 : Cond.methodLink RX8 34 yJ7_fill_53178 ∈ gtbl := tg (tb_4 (List.mem_of_getElem? (i := 86) rfl)) rfl
theorem ml_RX8_40 : Cond.methodLink RX8 40 yJ7_fill_d0a16 ∈ gtbl := tg (tb_4 (List.mem_of_getElem? (i := 89) rfl)) rfl
theorem ml_RX8_43 : Cond.methodLink RX8 43 yX1_prepare ∈ gtbl := tg (tb_6 (List.mem_of_getElem? (i := 174) rfl)) rfl
theorem ml_RX8_52 : Cond.methodLink RX8 52 yX0_isInside ∈ gtbl := tg (tb_6 (List.mem_of_getElem? (i := 176) rfl)) rfl
theorem ml_RX8_58 : Cond.methodLink RX8 58 yX8_countSpan ∈ gtbl := tg (tb_6 (List.mem_of_getElem? (i := 177) rfl)) rfl
theorem ml_RX8_62 : Cond.methodLink RX8 62 yX8_add ∈ gtbl := tg (tb_6 (List.mem_of_getElem? (i := 200) rfl)) rfl
theorem ml_RX8_66 : Cond.methodLink RX8 66 yX8_countItem ∈ gtbl := tg (tb_6 (List.mem_of_getElem? (i := 181) rfl)) rfl
theorem ml_RX8_70 : Cond.methodLink RX8 70 yX1_has ∈ gtbl := tg (tb_6 (List.mem_of_getElem? (i := 185) rfl)) rfl
theorem ml_RX8_79 : Cond.methodLink RX8 79 yX0_caseStart ∈ gtbl := tg (tb_6 (List.mem_of_getElem? (i := 186) rfl)) rfl
theorem ml_RX8_83 : Cond.methodLink RX8 83 yX0_caseEnd ∈ gtbl := tg (tb_6 (List.mem_of_getElem? (i := 187) rfl)) rfl
theorem ml_RX8_94 : Cond.methodLink RX8 94 yX1_isFull ∈ gtbl := tg (tb_6 (List.mem_of_getElem? (i := 188) rfl)) rfl
theorem ml_RX8_97 : Cond.methodLink RX8 97 yX8_countCase ∈ gtbl := tg (tb_6 (List.mem_of_getElem? (i := 189) rfl)) rfl
theorem ml_RX8_106 : Cond.methodLink RX8 106 Lib.Math.max.name ∈ gtbl := tg (tb_6 (List.mem_of_getElem? (i := 193) rfl)) rfl
theorem ml_RX8_112 : Cond.methodLink RX8 112 yX8_countPairs ∈ gtbl := tg (tb_6 (List.mem_of_getElem? (i := 194) rfl)) rfl
theorem ml_RX8_116 : Cond.methodLink RX8 116 Lib.Math.min.name ∈ gtbl := tg (tb_6 (List.mem_of_getElem? (i := 198) rfl)) rfl
theorem ml_RX8_119 : Cond.methodLink RX8 119 yX8_multiply ∈ gtbl := tg (tb_6 (List.mem_of_getElem? (i := 199) rfl)) rfl
theorem ml_RX9_34 : Cond.methodLink RX9 34 yX9_roundsTaken ∈ gtbl := tg (tb_5 (List.mem_of_getElem? (i := 169) rfl)) rfl
theorem ml_RX9_38 : Cond.methodLink RX9 38 yX0_build ∈ gtbl := tg (tb_5 (List.mem_of_getElem? (i := 173) rfl)) rfl
theorem ml_RX9_52 : Cond.methodLink RX9 52 yJ7_fill_53178 ∈ gtbl := tg (tb_5 (List.mem_of_getElem? (i := 174) rfl)) rfl
theorem ml_RX9_58 : Cond.methodLink RX9 58 yX9_changeAll ∈ gtbl := tg (tb_5 (List.mem_of_getElem? (i := 175) rfl)) rfl
theorem ml_RX9_62 : Cond.methodLink RX9 62 yX0_itemCount ∈ gtbl := tg (tb_5 (List.mem_of_getElem? (i := 179) rfl)) rfl
theorem ml_RX9_65 : Cond.methodLink RX9 65 yX9_renewed ∈ gtbl := tg (tb_5 (List.mem_of_getElem? (i := 180) rfl)) rfl
theorem ml_RX9_69 : Cond.methodLink RX9 69 arraycopyName ∈ gtbl := tg (tb_5 (List.mem_of_getElem? (i := 192) rfl)) rfl
theorem ml_RX9_75 : Cond.methodLink RX9 75 yX0_caseStart ∈ gtbl := tg (tb_5 (List.mem_of_getElem? (i := 184) rfl)) rfl
theorem ml_RX9_78 : Cond.methodLink RX9 78 yX0_caseEnd ∈ gtbl := tg (tb_5 (List.mem_of_getElem? (i := 185) rfl)) rfl
theorem ml_RX9_90 : Cond.methodLink RX9 90 yX9_partValue ∈ gtbl := tg (tb_5 (List.mem_of_getElem? (i := 186) rfl)) rfl
theorem ml_RX9_93 : Cond.methodLink RX9 93 yX4_times ∈ gtbl := tg (tb_5 (List.mem_of_getElem? (i := 190) rfl)) rfl
theorem ml_RX9_103 : Cond.methodLink RX9 103 yX4_plus ∈ gtbl := tg (tb_5 (List.mem_of_getElem? (i := 191) rfl)) rfl
theorem ml_RX9_109 : Cond.methodLink RX9 109 yX9_meetAll ∈ gtbl := tg (tb_5 (List.mem_of_getElem? (i := 208) rfl)) rfl
theorem ml_RX9_115 : Cond.methodLink RX9 115 yX9_lawsOfOne ∈ gtbl := tg (tb_5 (List.mem_of_getElem? (i := 212) rfl)) rfl
theorem ml_RX9_118 : Cond.methodLink RX9 118 yX9_lawsOfMore ∈ gtbl := tg (tb_5 (List.mem_of_getElem? (i := 219) rfl)) rfl
theorem ml_RX9_127 : Cond.methodLink RX9 127 yX9_keep ∈ gtbl := tg (tb_5 (List.mem_of_getElem? (i := 216) rfl)) rfl
theorem my_J13_bitCount_95d88 : MYk yJ13_bitCount_95d88 cJ13_bitCount_95d88 2 (some .int) 1 := ⟨tg (tb_10 (List.mem_of_getElem? (i := 92) rfl)) rfl, tg (tb_1 (List.mem_of_getElem? (i := 20) rfl)) rfl, ⟨by decide, by decide⟩, by decide +kernel, plainFor_of_name (by decide +kernel)⟩
theorem ms_J13_bitCount_95d88 : Cond.static yJ13_bitCount_95d88 ∈ gtbl := tg (tb_10 (List.mem_of_getElem? (i := 91) rfl)) rfl
theorem my_J7_fill_53178 : MYk yJ7_fill_53178 cJ7_fill_53178 4 none 2 := ⟨tg (tb_4 (List.mem_of_getElem? (i := 88) rfl)) rfl, tg (tb_1 (List.mem_of_getElem? (i := 19) rfl)) rfl, ⟨by decide, by decide⟩, by decide +kernel, plainFor_of_name (by decide +kernel)⟩
theorem ms_J7_fill_53178 : Cond.static yJ7_fill_53178 ∈ gtbl := tg (tb_4 (List.mem_of_getElem? (i := 87) rfl)) rfl
theorem my_J7_fill_d0a16 : MYk yJ7_fill_d0a16 cJ7_fill_d0a16 5 none 2 := ⟨tg (tb_4 (List.mem_of_getElem? (i := 91) rfl)) rfl, tg (tb_1 (List.mem_of_getElem? (i := 19) rfl)) rfl, ⟨by decide, by decide⟩, by decide +kernel, plainFor_of_name (by decide +kernel)⟩
theorem ms_J7_fill_d0a16 : Cond.static yJ7_fill_d0a16 ∈ gtbl := tg (tb_4 (List.mem_of_getElem? (i := 90) rfl)) rfl
theorem my_J9_floorMod_7cf53 : MYk yJ9_floorMod_7cf53 cJ9_floorMod_7cf53 3 (some .int) 2 := ⟨tg (tb_5 (List.mem_of_getElem? (i := 141) rfl)) rfl, tg (tb_1 (List.mem_of_getElem? (i := 14) rfl)) rfl, ⟨by decide, by decide⟩, by decide +kernel, by decide +kernel⟩
theorem ms_J9_floorMod_7cf53 : Cond.static yJ9_floorMod_7cf53 ∈ gtbl := tg (tb_5 (List.mem_of_getElem? (i := 140) rfl)) rfl
theorem my_X0_addCase : MYk yX0_addCase cX0_addCase 5 none 4 := ⟨tg (tb_4 (List.mem_of_getElem? (i := 162) rfl)) rfl, tg (tb_1 (List.mem_of_getElem? (i := 4) rfl)) rfl, ⟨by decide, by decide⟩, by decide +kernel, plainFor_of_name (by decide +kernel)⟩
theorem mi_X0_addCase : Cond.instanceMethod yX0_addCase ∈ gtbl := tg (tb_4 (List.mem_of_getElem? (i := 161) rfl)) rfl
theorem msel_X0_addCase : Cond.selects yX0_addCase.cls yX0_addCase yX0_addCase ∈ gtbl := tg (List.mem_append_left _ (List.mem_map.mpr ⟨(⟨"SpanValues$Chart", "addCase", "(IIII)V"⟩, _), (List.mem_append_right _ (List.mem_append_left _ (List.mem_of_getElem? (i := 5) rfl)) : _ ∈ lw_privs), rfl⟩)) rfl
theorem my_X0_addCases : MYk yX0_addCases cX0_addCases 6 none 2 := ⟨tg (tb_4 (List.mem_of_getElem? (i := 154) rfl)) rfl, tg (tb_1 (List.mem_of_getElem? (i := 4) rfl)) rfl, ⟨by decide, by decide⟩, by decide +kernel, plainFor_of_name (by decide +kernel)⟩
theorem mi_X0_addCases : Cond.instanceMethod yX0_addCases ∈ gtbl := tg (tb_4 (List.mem_of_getElem? (i := 153) rfl)) rfl
theorem msel_X0_addCases : Cond.selects yX0_addCases.cls yX0_addCases yX0_addCases ∈ gtbl := tg (List.mem_append_left _ (List.mem_map.mpr ⟨(⟨"SpanValues$Chart", "addCases", "(II)V"⟩, _), (List.mem_append_right _ (List.mem_append_left _ (List.mem_of_getElem? (i := 3) rfl)) : _ ∈ lw_privs), rfl⟩)) rfl
theorem my_X0_addSpan : MYk yX0_addSpan cX0_addSpan 5 none 1 := ⟨tg (tb_4 (List.mem_of_getElem? (i := 150) rfl)) rfl, tg (tb_1 (List.mem_of_getElem? (i := 4) rfl)) rfl, ⟨by decide, by decide⟩, by decide +kernel, plainFor_of_name (by decide +kernel)⟩
theorem mi_X0_addSpan : Cond.instanceMethod yX0_addSpan ∈ gtbl := tg (tb_4 (List.mem_of_getElem? (i := 149) rfl)) rfl
theorem msel_X0_addSpan : Cond.selects yX0_addSpan.cls yX0_addSpan yX0_addSpan ∈ gtbl := tg (List.mem_append_left _ (List.mem_map.mpr ⟨(⟨"SpanValues$Chart", "addSpan", "(I)V"⟩, _), (List.mem_append_right _ (List.mem_append_left _ (List.mem_of_getElem? (i := 2) rfl)) : _ ∈ lw_privs), rfl⟩)) rfl
theorem my_X0_beginOf : MYk yX0_beginOf cX0_beginOf 2 (some .int) 1 := ⟨tg (tb_6 (List.mem_of_getElem? (i := 13) rfl)) rfl, tg (tb_1 (List.mem_of_getElem? (i := 4) rfl)) rfl, ⟨by decide, by decide⟩, by decide +kernel, plainFor_of_name (by decide +kernel)⟩
theorem mi_X0_beginOf : Cond.instanceMethod yX0_beginOf ∈ gtbl := tg (tb_6 (List.mem_of_getElem? (i := 11) rfl)) rfl
theorem msel_X0_beginOf : Cond.selects yX0_beginOf.cls yX0_beginOf yX0_beginOf ∈ gtbl := tg (tb_6 (List.mem_of_getElem? (i := 12) rfl)) rfl
theorem my_X0_build : MYk yX0_build cX0_build 2 none 0 := ⟨tg (tb_4 (List.mem_of_getElem? (i := 134) rfl)) rfl, tg (tb_1 (List.mem_of_getElem? (i := 4) rfl)) rfl, ⟨by decide, by decide⟩, by decide +kernel, plainFor_of_name (by decide +kernel)⟩
theorem mi_X0_build : Cond.instanceMethod yX0_build ∈ gtbl := tg (tb_4 (List.mem_of_getElem? (i := 132) rfl)) rfl
theorem msel_X0_build : Cond.selects yX0_build.cls yX0_build yX0_build ∈ gtbl := tg (tb_4 (List.mem_of_getElem? (i := 133) rfl)) rfl
theorem my_X0_caseEnd : MYk yX0_caseEnd cX0_caseEnd 2 (some .int) 1 := ⟨tg (tb_4 (List.mem_of_getElem? (i := 178) rfl)) rfl, tg (tb_1 (List.mem_of_getElem? (i := 4) rfl)) rfl, ⟨by decide, by decide⟩, by decide +kernel, plainFor_of_name (by decide +kernel)⟩
theorem mi_X0_caseEnd : Cond.instanceMethod yX0_caseEnd ∈ gtbl := tg (tb_4 (List.mem_of_getElem? (i := 176) rfl)) rfl
theorem msel_X0_caseEnd : Cond.selects yX0_caseEnd.cls yX0_caseEnd yX0_caseEnd ∈ gtbl := tg (tb_4 (List.mem_of_getElem? (i := 177) rfl)) rfl
theorem my_X0_caseStart : MYk yX0_caseStart cX0_caseStart 2 (some .int) 1 := ⟨tg (tb_4 (List.mem_of_getElem? (i := 174) rfl)) rfl, tg (tb_1 (List.mem_of_getElem? (i := 4) rfl)) rfl, ⟨by decide, by decide⟩, by decide +kernel, plainFor_of_name (by decide +kernel)⟩
theorem mi_X0_caseStart : Cond.instanceMethod yX0_caseStart ∈ gtbl := tg (tb_4 (List.mem_of_getElem? (i := 172) rfl)) rfl
theorem msel_X0_caseStart : Cond.selects yX0_caseStart.cls yX0_caseStart yX0_caseStart ∈ gtbl := tg (tb_4 (List.mem_of_getElem? (i := 173) rfl)) rfl
theorem my_X0_finishOf : MYk yX0_finishOf cX0_finishOf 2 (some .int) 1 := ⟨tg (tb_6 (List.mem_of_getElem? (i := 17) rfl)) rfl, tg (tb_1 (List.mem_of_getElem? (i := 4) rfl)) rfl, ⟨by decide, by decide⟩, by decide +kernel, plainFor_of_name (by decide +kernel)⟩
theorem mi_X0_finishOf : Cond.instanceMethod yX0_finishOf ∈ gtbl := tg (tb_6 (List.mem_of_getElem? (i := 15) rfl)) rfl
theorem msel_X0_finishOf : Cond.selects yX0_finishOf.cls yX0_finishOf yX0_finishOf ∈ gtbl := tg (tb_6 (List.mem_of_getElem? (i := 16) rfl)) rfl
theorem my_X0_forget : MYk yX0_forget cX0_forget 1 none 0 := ⟨tg (tb_4 (List.mem_of_getElem? (i := 57) rfl)) rfl, tg (tb_1 (List.mem_of_getElem? (i := 4) rfl)) rfl, ⟨by decide, by decide⟩, by decide +kernel, plainFor_of_name (by decide +kernel)⟩
theorem mi_X0_forget : Cond.instanceMethod yX0_forget ∈ gtbl := tg (tb_4 (List.mem_of_getElem? (i := 55) rfl)) rfl
theorem msel_X0_forget : Cond.selects yX0_forget.cls yX0_forget yX0_forget ∈ gtbl := tg (tb_4 (List.mem_of_getElem? (i := 56) rfl)) rfl
theorem my_X0_gatherLive : MYk yX0_gatherLive cX0_gatherLive 3 none 0 := ⟨tg (tb_4 (List.mem_of_getElem? (i := 142) rfl)) rfl, tg (tb_1 (List.mem_of_getElem? (i := 4) rfl)) rfl, ⟨by decide, by decide⟩, by decide +kernel, plainFor_of_name (by decide +kernel)⟩
theorem mi_X0_gatherLive : Cond.instanceMethod yX0_gatherLive ∈ gtbl := tg (tb_4 (List.mem_of_getElem? (i := 141) rfl)) rfl
theorem msel_X0_gatherLive : Cond.selects yX0_gatherLive.cls yX0_gatherLive yX0_gatherLive ∈ gtbl := tg (List.mem_append_left _ (List.mem_map.mpr ⟨(⟨"SpanValues$Chart", "gatherLive", "()V"⟩, _), (List.mem_append_right _ (List.mem_append_left _ (List.mem_of_getElem? (i := 1) rfl)) : _ ∈ lw_privs), rfl⟩)) rfl
theorem my_X0_goesOn : MYk yX0_goesOn cX0_goesOn 2 (some .boolean) 1 := ⟨tg (tb_4 (List.mem_of_getElem? (i := 182) rfl)) rfl, tg (tb_1 (List.mem_of_getElem? (i := 4) rfl)) rfl, ⟨by decide, by decide⟩, by decide +kernel, plainFor_of_name (by decide +kernel)⟩
theorem mi_X0_goesOn : Cond.instanceMethod yX0_goesOn ∈ gtbl := tg (tb_4 (List.mem_of_getElem? (i := 180) rfl)) rfl
theorem msel_X0_goesOn : Cond.selects yX0_goesOn.cls yX0_goesOn yX0_goesOn ∈ gtbl := tg (tb_4 (List.mem_of_getElem? (i := 181) rfl)) rfl
theorem my_X0_hear : MYk yX0_hear cX0_hear 4 none 2 := ⟨tg (tb_4 (List.mem_of_getElem? (i := 113) rfl)) rfl, tg (tb_1 (List.mem_of_getElem? (i := 4) rfl)) rfl, ⟨by decide, by decide⟩, by decide +kernel, plainFor_of_name (by decide +kernel)⟩
theorem mi_X0_hear : Cond.instanceMethod yX0_hear ∈ gtbl := tg (tb_4 (List.mem_of_getElem? (i := 111) rfl)) rfl
theorem msel_X0_hear : Cond.selects yX0_hear.cls yX0_hear yX0_hear ∈ gtbl := tg (tb_4 (List.mem_of_getElem? (i := 112) rfl)) rfl
theorem my_X0_isInside : MYk yX0_isInside cX0_isInside 3 (some .boolean) 2 := ⟨tg (tb_6 (List.mem_of_getElem? (i := 33) rfl)) rfl, tg (tb_1 (List.mem_of_getElem? (i := 4) rfl)) rfl, ⟨by decide, by decide⟩, by decide +kernel, plainFor_of_name (by decide +kernel)⟩
theorem mi_X0_isInside : Cond.instanceMethod yX0_isInside ∈ gtbl := tg (tb_6 (List.mem_of_getElem? (i := 31) rfl)) rfl
theorem msel_X0_isInside : Cond.selects yX0_isInside.cls yX0_isInside yX0_isInside ∈ gtbl := tg (tb_6 (List.mem_of_getElem? (i := 32) rfl)) rfl
theorem my_X0_itemAt : MYk yX0_itemAt cX0_itemAt 4 (some .int) 3 := ⟨tg (tb_5 (List.mem_of_getElem? (i := 16) rfl)) rfl, tg (tb_1 (List.mem_of_getElem? (i := 4) rfl)) rfl, ⟨by decide, by decide⟩, by decide +kernel, plainFor_of_name (by decide +kernel)⟩
theorem mi_X0_itemAt : Cond.instanceMethod yX0_itemAt ∈ gtbl := tg (tb_5 (List.mem_of_getElem? (i := 14) rfl)) rfl
theorem msel_X0_itemAt : Cond.selects yX0_itemAt.cls yX0_itemAt yX0_itemAt ∈ gtbl := tg (tb_5 (List.mem_of_getElem? (i := 15) rfl)) rfl
theorem my_X0_itemCount : MYk yX0_itemCount cX0_itemCount 1 (some .int) 0 := ⟨tg (tb_4 (List.mem_of_getElem? (i := 199) rfl)) rfl, tg (tb_1 (List.mem_of_getElem? (i := 4) rfl)) rfl, ⟨by decide, by decide⟩, by decide +kernel, plainFor_of_name (by decide +kernel)⟩
theorem mi_X0_itemCount : Cond.instanceMethod yX0_itemCount ∈ gtbl := tg (tb_4 (List.mem_of_getElem? (i := 197) rfl)) rfl
theorem msel_X0_itemCount : Cond.selects yX0_itemCount.cls yX0_itemCount yX0_itemCount ∈ gtbl := tg (tb_4 (List.mem_of_getElem? (i := 198) rfl)) rfl
theorem my_X0_layOutSpans : MYk yX0_layOutSpans cX0_layOutSpans 3 none 0 := ⟨tg (tb_4 (List.mem_of_getElem? (i := 138) rfl)) rfl, tg (tb_1 (List.mem_of_getElem? (i := 4) rfl)) rfl, ⟨by decide, by decide⟩, by decide +kernel, plainFor_of_name (by decide +kernel)⟩
theorem mi_X0_layOutSpans : Cond.instanceMethod yX0_layOutSpans ∈ gtbl := tg (tb_4 (List.mem_of_getElem? (i := 137) rfl)) rfl
theorem msel_X0_layOutSpans : Cond.selects yX0_layOutSpans.cls yX0_layOutSpans yX0_layOutSpans ∈ gtbl := tg (List.mem_append_left _ (List.mem_map.mpr ⟨(⟨"SpanValues$Chart", "layOutSpans", "()V"⟩, _), (List.mem_append_right _ (List.mem_append_left _ (List.mem_of_getElem? (i := 0) rfl)) : _ ∈ lw_privs), rfl⟩)) rfl
theorem my_X0_partOver : MYk yX0_partOver cX0_partOver 4 (some .int) 3 := ⟨tg (tb_4 (List.mem_of_getElem? (i := 158) rfl)) rfl, tg (tb_1 (List.mem_of_getElem? (i := 4) rfl)) rfl, ⟨by decide, by decide⟩, by decide +kernel, plainFor_of_name (by decide +kernel)⟩
theorem mi_X0_partOver : Cond.instanceMethod yX0_partOver ∈ gtbl := tg (tb_4 (List.mem_of_getElem? (i := 157) rfl)) rfl
theorem msel_X0_partOver : Cond.selects yX0_partOver.cls yX0_partOver yX0_partOver ∈ gtbl := tg (List.mem_append_left _ (List.mem_map.mpr ⟨(⟨"SpanValues$Chart", "partOver", "(III)I"⟩, _), (List.mem_append_right _ (List.mem_append_left _ (List.mem_of_getElem? (i := 4) rfl)) : _ ∈ lw_privs), rfl⟩)) rfl
theorem my_X10_alikeWith : MYk yX10_alikeWith cX10_alikeWith 4 (some .int) 1 := ⟨tg (tb_6 (List.mem_of_getElem? (i := 208) rfl)) rfl, tg (tb_1 (List.mem_of_getElem? (i := 10) rfl)) rfl, ⟨by decide, by decide⟩, by decide +kernel, plainFor_of_name (by decide +kernel)⟩
theorem mi_X10_alikeWith : Cond.instanceMethod yX10_alikeWith ∈ gtbl := tg (tb_6 (List.mem_of_getElem? (i := 206) rfl)) rfl
theorem msel_X10_alikeWith : Cond.selects yX10_alikeWith.cls yX10_alikeWith yX10_alikeWith ∈ gtbl := tg (tb_6 (List.mem_of_getElem? (i := 207) rfl)) rfl
theorem my_X10_beginOf : MYk yX10_beginOf cX10_beginOf 2 (some .int) 1 := ⟨tg (tb_6 (List.mem_of_getElem? (i := 131) rfl)) rfl, tg (tb_1 (List.mem_of_getElem? (i := 10) rfl)) rfl, ⟨by decide, by decide⟩, by decide +kernel, plainFor_of_name (by decide +kernel)⟩
theorem mi_X10_beginOf : Cond.instanceMethod yX10_beginOf ∈ gtbl := tg (tb_6 (List.mem_of_getElem? (i := 129) rfl)) rfl
theorem msel_X10_beginOf : Cond.selects yX10_beginOf.cls yX10_beginOf yX10_beginOf ∈ gtbl := tg (tb_6 (List.mem_of_getElem? (i := 130) rfl)) rfl
theorem my_X10_caseAt : MYk yX10_caseAt cX10_caseAt 2 (some .int) 1 := ⟨tg (tb_6 (List.mem_of_getElem? (i := 119) rfl)) rfl, tg (tb_1 (List.mem_of_getElem? (i := 10) rfl)) rfl, ⟨by decide, by decide⟩, by decide +kernel, plainFor_of_name (by decide +kernel)⟩
theorem mi_X10_caseAt : Cond.instanceMethod yX10_caseAt ∈ gtbl := tg (tb_6 (List.mem_of_getElem? (i := 118) rfl)) rfl
theorem msel_X10_caseAt : Cond.selects yX10_caseAt.cls yX10_caseAt yX10_caseAt ∈ gtbl := tg (List.mem_append_left _ (List.mem_map.mpr ⟨(⟨"SpanValues$Walk", "caseAt", "(I)I"⟩, _), (List.mem_append_right _ (List.mem_append_right _ (List.mem_append_right _ (List.mem_append_left _ (List.mem_of_getElem? (i := 12) rfl)))) : _ ∈ lw_privs), rfl⟩)) rfl
theorem my_X10_finishOf : MYk yX10_finishOf cX10_finishOf 2 (some .int) 1 := ⟨tg (tb_6 (List.mem_of_getElem? (i := 140) rfl)) rfl, tg (tb_1 (List.mem_of_getElem? (i := 10) rfl)) rfl, ⟨by decide, by decide⟩, by decide +kernel, plainFor_of_name (by decide +kernel)⟩
theorem mi_X10_finishOf : Cond.instanceMethod yX10_finishOf ∈ gtbl := tg (tb_6 (List.mem_of_getElem? (i := 138) rfl)) rfl
theorem msel_X10_finishOf : Cond.selects yX10_finishOf.cls yX10_finishOf yX10_finishOf ∈ gtbl := tg (tb_6 (List.mem_of_getElem? (i := 139) rfl)) rfl
theorem my_X10_follow : MYk yX10_follow cX10_follow 5 none 1 := ⟨tg (tb_6 (List.mem_of_getElem? (i := 90) rfl)) rfl, tg (tb_1 (List.mem_of_getElem? (i := 10) rfl)) rfl, ⟨by decide, by decide⟩, by decide +kernel, plainFor_of_name (by decide +kernel)⟩
theorem mi_X10_follow : Cond.instanceMethod yX10_follow ∈ gtbl := tg (tb_6 (List.mem_of_getElem? (i := 88) rfl)) rfl
theorem msel_X10_follow : Cond.selects yX10_follow.cls yX10_follow yX10_follow ∈ gtbl := tg (tb_6 (List.mem_of_getElem? (i := 89) rfl)) rfl
theorem my_X10_middleOf : MYk yX10_middleOf cX10_middleOf 2 (some .int) 1 := ⟨tg (tb_6 (List.mem_of_getElem? (i := 136) rfl)) rfl, tg (tb_1 (List.mem_of_getElem? (i := 10) rfl)) rfl, ⟨by decide, by decide⟩, by decide +kernel, plainFor_of_name (by decide +kernel)⟩
theorem mi_X10_middleOf : Cond.instanceMethod yX10_middleOf ∈ gtbl := tg (tb_6 (List.mem_of_getElem? (i := 134) rfl)) rfl
theorem msel_X10_middleOf : Cond.selects yX10_middleOf.cls yX10_middleOf yX10_middleOf ∈ gtbl := tg (tb_6 (List.mem_of_getElem? (i := 135) rfl)) rfl
theorem my_X10_open : MYk yX10_open cX10_open 4 none 2 := ⟨tg (tb_6 (List.mem_of_getElem? (i := 157) rfl)) rfl, tg (tb_1 (List.mem_of_getElem? (i := 10) rfl)) rfl, ⟨by decide, by decide⟩, by decide +kernel, plainFor_of_name (by decide +kernel)⟩
theorem mi_X10_open : Cond.instanceMethod yX10_open ∈ gtbl := tg (tb_6 (List.mem_of_getElem? (i := 156) rfl)) rfl
theorem msel_X10_open : Cond.selects yX10_open.cls yX10_open yX10_open ∈ gtbl := tg (List.mem_append_left _ (List.mem_map.mpr ⟨(⟨"SpanValues$Walk", "open", "([II)V"⟩, _), (List.mem_append_right _ (List.mem_append_right _ (List.mem_append_right _ (List.mem_append_left _ (List.mem_of_getElem? (i := 15) rfl)))) : _ ∈ lw_privs), rfl⟩)) rfl
theorem my_X10_push : MYk yX10_push cX10_push 3 none 2 := ⟨tg (tb_6 (List.mem_of_getElem? (i := 94) rfl)) rfl, tg (tb_1 (List.mem_of_getElem? (i := 10) rfl)) rfl, ⟨by decide, by decide⟩, by decide +kernel, plainFor_of_name (by decide +kernel)⟩
theorem mi_X10_push : Cond.instanceMethod yX10_push ∈ gtbl := tg (tb_6 (List.mem_of_getElem? (i := 93) rfl)) rfl
theorem msel_X10_push : Cond.selects yX10_push.cls yX10_push yX10_push ∈ gtbl := tg (List.mem_append_left _ (List.mem_map.mpr ⟨(⟨"SpanValues$Walk", "push", "(II)V"⟩, _), (List.mem_append_right _ (List.mem_append_right _ (List.mem_append_right _ (List.mem_append_left _ (List.mem_of_getElem? (i := 10) rfl)))) : _ ∈ lw_privs), rfl⟩)) rfl
theorem my_X10_pushPart : MYk yX10_pushPart cX10_pushPart 3 none 2 := ⟨tg (tb_6 (List.mem_of_getElem? (i := 161) rfl)) rfl, tg (tb_1 (List.mem_of_getElem? (i := 10) rfl)) rfl, ⟨by decide, by decide⟩, by decide +kernel, plainFor_of_name (by decide +kernel)⟩
theorem mi_X10_pushPart : Cond.instanceMethod yX10_pushPart ∈ gtbl := tg (tb_6 (List.mem_of_getElem? (i := 160) rfl)) rfl
theorem msel_X10_pushPart : Cond.selects yX10_pushPart.cls yX10_pushPart yX10_pushPart ∈ gtbl := tg (List.mem_append_left _ (List.mem_map.mpr ⟨(⟨"SpanValues$Walk", "pushPart", "(II)V"⟩, _), (List.mem_append_right _ (List.mem_append_right _ (List.mem_append_right _ (List.mem_append_right _ (List.mem_append_left _ (List.mem_of_getElem? (i := 0) rfl))))) : _ ∈ lw_privs), rfl⟩)) rfl
theorem my_X10_pushTree : MYk yX10_pushTree cX10_pushTree 3 none 2 := ⟨tg (tb_6 (List.mem_of_getElem? (i := 103) rfl)) rfl, tg (tb_1 (List.mem_of_getElem? (i := 10) rfl)) rfl, ⟨by decide, by decide⟩, by decide +kernel, plainFor_of_name (by decide +kernel)⟩
theorem mi_X10_pushTree : Cond.instanceMethod yX10_pushTree ∈ gtbl := tg (tb_6 (List.mem_of_getElem? (i := 102) rfl)) rfl
theorem msel_X10_pushTree : Cond.selects yX10_pushTree.cls yX10_pushTree yX10_pushTree ∈ gtbl := tg (List.mem_append_left _ (List.mem_map.mpr ⟨(⟨"SpanValues$Walk", "pushTree", "(II)V"⟩, _), (List.mem_append_right _ (List.mem_append_right _ (List.mem_append_right _ (List.mem_append_left _ (List.mem_of_getElem? (i := 11) rfl)))) : _ ∈ lw_privs), rfl⟩)) rfl
theorem my_X10_put : MYk yX10_put cX10_put 3 none 2 := ⟨tg (tb_6 (List.mem_of_getElem? (i := 153) rfl)) rfl, tg (tb_1 (List.mem_of_getElem? (i := 10) rfl)) rfl, ⟨by decide, by decide⟩, by decide +kernel, plainFor_of_name (by decide +kernel)⟩
theorem mi_X10_put : Cond.instanceMethod yX10_put ∈ gtbl := tg (tb_6 (List.mem_of_getElem? (i := 152) rfl)) rfl
theorem msel_X10_put : Cond.selects yX10_put.cls yX10_put yX10_put ∈ gtbl := tg (List.mem_append_left _ (List.mem_map.mpr ⟨(⟨"SpanValues$Walk", "put", "([II)V"⟩, _), (List.mem_append_right _ (List.mem_append_right _ (List.mem_append_right _ (List.mem_append_left _ (List.mem_of_getElem? (i := 14) rfl)))) : _ ∈ lw_privs), rfl⟩)) rfl
theorem my_X10_ruleOf : MYk yX10_ruleOf cX10_ruleOf 2 (some .int) 1 := ⟨tg (tb_6 (List.mem_of_getElem? (i := 115) rfl)) rfl, tg (tb_1 (List.mem_of_getElem? (i := 10) rfl)) rfl, ⟨by decide, by decide⟩, by decide +kernel, plainFor_of_name (by decide +kernel)⟩
theorem mi_X10_ruleOf : Cond.instanceMethod yX10_ruleOf ∈ gtbl := tg (tb_6 (List.mem_of_getElem? (i := 113) rfl)) rfl
theorem msel_X10_ruleOf : Cond.selects yX10_ruleOf.cls yX10_ruleOf yX10_ruleOf ∈ gtbl := tg (tb_6 (List.mem_of_getElem? (i := 114) rfl)) rfl
theorem my_X10_write : MYk yX10_write cX10_write 5 (some .int) 2 := ⟨tg (tb_6 (List.mem_of_getElem? (i := 149) rfl)) rfl, tg (tb_1 (List.mem_of_getElem? (i := 10) rfl)) rfl, ⟨by decide, by decide⟩, by decide +kernel, plainFor_of_name (by decide +kernel)⟩
theorem mi_X10_write : Cond.instanceMethod yX10_write ∈ gtbl := tg (tb_6 (List.mem_of_getElem? (i := 147) rfl)) rfl
theorem msel_X10_write : Cond.selects yX10_write.cls yX10_write yX10_write ∈ gtbl := tg (tb_6 (List.mem_of_getElem? (i := 148) rfl)) rfl
theorem my_X11_alike : MYk yX11_alike cX11_alike 9 (some .int) 5 := ⟨tg (tb_6 (List.mem_of_getElem? (i := 204) rfl)) rfl, tg (tb_1 (List.mem_of_getElem? (i := 1) rfl)) rfl, ⟨by decide, by decide⟩, by decide +kernel, plainFor_of_name (by decide +kernel)⟩
theorem mi_X11_alike : Cond.instanceMethod yX11_alike ∈ gtbl := tg (tb_6 (List.mem_of_getElem? (i := 202) rfl)) rfl
theorem msel_X11_alike : Cond.selects yX11_alike.cls yX11_alike yX11_alike ∈ gtbl := tg (tb_6 (List.mem_of_getElem? (i := 203) rfl)) rfl
theorem my_X11_alive : MYk yX11_alive cX11_alive 1 (some .long) 0 := ⟨tg (tb_7 (List.mem_of_getElem? (i := 43) rfl)) rfl, tg (tb_1 (List.mem_of_getElem? (i := 1) rfl)) rfl, ⟨by decide, by decide⟩, by decide +kernel, plainFor_of_name (by decide +kernel)⟩
theorem mi_X11_alive : Cond.instanceMethod yX11_alive ∈ gtbl := tg (tb_7 (List.mem_of_getElem? (i := 41) rfl)) rfl
theorem msel_X11_alive : Cond.selects yX11_alive.cls yX11_alive yX11_alive ∈ gtbl := tg (tb_7 (List.mem_of_getElem? (i := 42) rfl)) rfl
theorem my_X11_best : MYk yX11_best cX11_best 7 (some .int) 4 := ⟨tg (tb_6 (List.mem_of_getElem? (i := 21) rfl)) rfl, tg (tb_1 (List.mem_of_getElem? (i := 1) rfl)) rfl, ⟨by decide, by decide⟩, by decide +kernel, plainFor_of_name (by decide +kernel)⟩
theorem mi_X11_best : Cond.instanceMethod yX11_best ∈ gtbl := tg (tb_6 (List.mem_of_getElem? (i := 19) rfl)) rfl
theorem msel_X11_best : Cond.selects yX11_best.cls yX11_best yX11_best ∈ gtbl := tg (tb_6 (List.mem_of_getElem? (i := 20) rfl)) rfl
theorem my_X11_bounds : MYk yX11_bounds cX11_bounds 6 (some .int) 3 := ⟨tg (tb_6 (List.mem_of_getElem? (i := 123) rfl)) rfl, tg (tb_1 (List.mem_of_getElem? (i := 1) rfl)) rfl, ⟨by decide, by decide⟩, by decide +kernel, plainFor_of_name (by decide +kernel)⟩
theorem mi_X11_bounds : Cond.instanceMethod yX11_bounds ∈ gtbl := tg (tb_6 (List.mem_of_getElem? (i := 121) rfl)) rfl
theorem msel_X11_bounds : Cond.selects yX11_bounds.cls yX11_bounds yX11_bounds ∈ gtbl := tg (tb_6 (List.mem_of_getElem? (i := 122) rfl)) rfl
theorem my_X11_can : MYk yX11_can cX11_can 5 (some .int) 3 := ⟨tg (tb_5 (List.mem_of_getElem? (i := 7) rfl)) rfl, tg (tb_1 (List.mem_of_getElem? (i := 1) rfl)) rfl, ⟨by decide, by decide⟩, by decide +kernel, plainFor_of_name (by decide +kernel)⟩
theorem mi_X11_can : Cond.instanceMethod yX11_can ∈ gtbl := tg (tb_5 (List.mem_of_getElem? (i := 5) rfl)) rfl
theorem msel_X11_can : Cond.selects yX11_can.cls yX11_can yX11_can ∈ gtbl := tg (tb_5 (List.mem_of_getElem? (i := 6) rfl)) rfl
theorem my_X11_cases : MYk yX11_cases cX11_cases 6 (some .int) 4 := ⟨tg (tb_5 (List.mem_of_getElem? (i := 226) rfl)) rfl, tg (tb_1 (List.mem_of_getElem? (i := 1) rfl)) rfl, ⟨by decide, by decide⟩, by decide +kernel, plainFor_of_name (by decide +kernel)⟩
theorem mi_X11_cases : Cond.instanceMethod yX11_cases ∈ gtbl := tg (tb_5 (List.mem_of_getElem? (i := 224) rfl)) rfl
theorem msel_X11_cases : Cond.selects yX11_cases.cls yX11_cases yX11_cases ∈ gtbl := tg (tb_5 (List.mem_of_getElem? (i := 225) rfl)) rfl
theorem my_X11_cheap : MYk yX11_cheap cX11_cheap 6 (some .long) 4 := ⟨tg (tb_6 (List.mem_of_getElem? (i := 169) rfl)) rfl, tg (tb_1 (List.mem_of_getElem? (i := 1) rfl)) rfl, ⟨by decide, by decide⟩, by decide +kernel, plainFor_of_name (by decide +kernel)⟩
theorem mi_X11_cheap : Cond.instanceMethod yX11_cheap ∈ gtbl := tg (tb_6 (List.mem_of_getElem? (i := 167) rfl)) rfl
theorem msel_X11_cheap : Cond.selects yX11_cheap.cls yX11_cheap yX11_cheap ∈ gtbl := tg (tb_6 (List.mem_of_getElem? (i := 168) rfl)) rfl
theorem my_X11_count : MYk yX11_count cX11_count 2 (some .int) 1 := ⟨tg (tb_4 (List.mem_of_getElem? (i := 118) rfl)) rfl, tg (tb_1 (List.mem_of_getElem? (i := 1) rfl)) rfl, ⟨by decide, by decide⟩, by decide +kernel, plainFor_of_name (by decide +kernel)⟩
theorem mi_X11_count : Cond.instanceMethod yX11_count ∈ gtbl := tg (tb_4 (List.mem_of_getElem? (i := 116) rfl)) rfl
theorem msel_X11_count : Cond.selects yX11_count.cls yX11_count yX11_count ∈ gtbl := tg (tb_4 (List.mem_of_getElem? (i := 117) rfl)) rfl
theorem my_X11_dearest : MYk yX11_dearest cX11_dearest 5 (some .int) 3 := ⟨tg (tb_5 (List.mem_of_getElem? (i := 86) rfl)) rfl, tg (tb_1 (List.mem_of_getElem? (i := 1) rfl)) rfl, ⟨by decide, by decide⟩, by decide +kernel, plainFor_of_name (by decide +kernel)⟩
theorem mi_X11_dearest : Cond.instanceMethod yX11_dearest ∈ gtbl := tg (tb_5 (List.mem_of_getElem? (i := 84) rfl)) rfl
theorem msel_X11_dearest : Cond.selects yX11_dearest.cls yX11_dearest yX11_dearest ∈ gtbl := tg (tb_5 (List.mem_of_getElem? (i := 85) rfl)) rfl
theorem my_X11_drops : MYk yX11_drops cX11_drops 4 (some .int) 2 := ⟨tg (tb_4 (List.mem_of_getElem? (i := 235) rfl)) rfl, tg (tb_1 (List.mem_of_getElem? (i := 1) rfl)) rfl, ⟨by decide, by decide⟩, by decide +kernel, plainFor_of_name (by decide +kernel)⟩
theorem mi_X11_drops : Cond.instanceMethod yX11_drops ∈ gtbl := tg (tb_4 (List.mem_of_getElem? (i := 233) rfl)) rfl
theorem msel_X11_drops : Cond.selects yX11_drops.cls yX11_drops yX11_drops ∈ gtbl := tg (tb_4 (List.mem_of_getElem? (i := 234) rfl)) rfl
theorem my_X11_elements : MYk yX11_elements cX11_elements 4 (some .int) 2 := ⟨tg (tb_5 (List.mem_of_getElem? (i := 3) rfl)) rfl, tg (tb_1 (List.mem_of_getElem? (i := 1) rfl)) rfl, ⟨by decide, by decide⟩, by decide +kernel, plainFor_of_name (by decide +kernel)⟩
theorem mi_X11_elements : Cond.instanceMethod yX11_elements ∈ gtbl := tg (tb_5 (List.mem_of_getElem? (i := 1) rfl)) rfl
theorem msel_X11_elements : Cond.selects yX11_elements.cls yX11_elements yX11_elements ∈ gtbl := tg (tb_5 (List.mem_of_getElem? (i := 2) rfl)) rfl
theorem my_X11_end : MYk yX11_end cX11_end 2 (some .int) 1 := ⟨tg (tb_3 (List.mem_of_getElem? (i := 160) rfl)) rfl, tg (tb_1 (List.mem_of_getElem? (i := 1) rfl)) rfl, ⟨by decide, by decide⟩, by decide +kernel, plainFor_of_name (by decide +kernel)⟩
theorem mi_X11_end : Cond.instanceMethod yX11_end ∈ gtbl := tg (tb_3 (List.mem_of_getElem? (i := 158) rfl)) rfl
theorem msel_X11_end : Cond.selects yX11_end.cls yX11_end yX11_end ∈ gtbl := tg (tb_3 (List.mem_of_getElem? (i := 159) rfl)) rfl
theorem my_X11_fault : MYk yX11_fault cX11_fault 2 (some .int) 1 := ⟨tg (tb_4 (List.mem_of_getElem? (i := 100) rfl)) rfl, tg (tb_1 (List.mem_of_getElem? (i := 1) rfl)) rfl, ⟨by decide, by decide⟩, by decide +kernel, plainFor_of_name (by decide +kernel)⟩
theorem mi_X11_fault : Cond.instanceMethod yX11_fault ∈ gtbl := tg (tb_4 (List.mem_of_getElem? (i := 98) rfl)) rfl
theorem msel_X11_fault : Cond.selects yX11_fault.cls yX11_fault yX11_fault ∈ gtbl := tg (tb_4 (List.mem_of_getElem? (i := 99) rfl)) rfl
theorem my_X11_feed : MYk yX11_feed cX11_feed 6 (some .int) 5 := ⟨tg (tb_3 (List.mem_of_getElem? (i := 152) rfl)) rfl, tg (tb_1 (List.mem_of_getElem? (i := 1) rfl)) rfl, ⟨by decide, by decide⟩, by decide +kernel, plainFor_of_name (by decide +kernel)⟩
theorem mi_X11_feed : Cond.instanceMethod yX11_feed ∈ gtbl := tg (tb_3 (List.mem_of_getElem? (i := 150) rfl)) rfl
theorem msel_X11_feed : Cond.selects yX11_feed.cls yX11_feed yX11_feed ∈ gtbl := tg (tb_3 (List.mem_of_getElem? (i := 151) rfl)) rfl
theorem my_X11_forgetCases : MYk yX11_forgetCases cX11_forgetCases 1 none 0 := ⟨tg (tb_4 (List.mem_of_getElem? (i := 53) rfl)) rfl, tg (tb_1 (List.mem_of_getElem? (i := 1) rfl)) rfl, ⟨by decide, by decide⟩, by decide +kernel, plainFor_of_name (by decide +kernel)⟩
theorem mi_X11_forgetCases : Cond.instanceMethod yX11_forgetCases ∈ gtbl := tg (tb_4 (List.mem_of_getElem? (i := 52) rfl)) rfl
theorem msel_X11_forgetCases : Cond.selects yX11_forgetCases.cls yX11_forgetCases yX11_forgetCases ∈ gtbl := tg (List.mem_append_left _ (List.mem_map.mpr ⟨(⟨"SpanValues", "forgetCases", "()V"⟩, _), (List.mem_append_left _ (List.mem_of_getElem? (i := 13) rfl) : _ ∈ lw_privs), rfl⟩)) rfl
theorem my_X11_forgetCosts : MYk yX11_forgetCosts cX11_forgetCosts 1 none 0 := ⟨tg (tb_4 (List.mem_of_getElem? (i := 69) rfl)) rfl, tg (tb_1 (List.mem_of_getElem? (i := 1) rfl)) rfl, ⟨by decide, by decide⟩, by decide +kernel, plainFor_of_name (by decide +kernel)⟩
theorem mi_X11_forgetCosts : Cond.instanceMethod yX11_forgetCosts ∈ gtbl := tg (tb_4 (List.mem_of_getElem? (i := 68) rfl)) rfl
theorem msel_X11_forgetCosts : Cond.selects yX11_forgetCosts.cls yX11_forgetCosts yX11_forgetCosts ∈ gtbl := tg (List.mem_append_left _ (List.mem_map.mpr ⟨(⟨"SpanValues", "forgetCosts", "()V"⟩, _), (List.mem_append_left _ (List.mem_of_getElem? (i := 14) rfl) : _ ∈ lw_privs), rfl⟩)) rfl
theorem my_X11_grammar : MYk yX11_grammar cX11_grammar 1 (some .int) 0 := ⟨tg (tb_3 (List.mem_of_getElem? (i := 164) rfl)) rfl, tg (tb_1 (List.mem_of_getElem? (i := 1) rfl)) rfl, ⟨by decide, by decide⟩, by decide +kernel, plainFor_of_name (by decide +kernel)⟩
theorem mi_X11_grammar : Cond.instanceMethod yX11_grammar ∈ gtbl := tg (tb_3 (List.mem_of_getElem? (i := 162) rfl)) rfl
theorem msel_X11_grammar : Cond.selects yX11_grammar.cls yX11_grammar yX11_grammar ∈ gtbl := tg (tb_3 (List.mem_of_getElem? (i := 163) rfl)) rfl
theorem my_X11_heads : MYk yX11_heads cX11_heads 4 (some .int) 0 := ⟨tg (tb_6 (List.mem_of_getElem? (i := 221) rfl)) rfl, tg (tb_1 (List.mem_of_getElem? (i := 1) rfl)) rfl, ⟨by decide, by decide⟩, by decide +kernel, plainFor_of_name (by decide +kernel)⟩
theorem mi_X11_heads : Cond.instanceMethod yX11_heads ∈ gtbl := tg (tb_6 (List.mem_of_getElem? (i := 219) rfl)) rfl
theorem msel_X11_heads : Cond.selects yX11_heads.cls yX11_heads yX11_heads ∈ gtbl := tg (tb_6 (List.mem_of_getElem? (i := 220) rfl)) rfl
theorem my_X11_isPlace : MYk yX11_isPlace cX11_isPlace 1 (some .boolean) 1 := ⟨tg (tb_6 (List.mem_of_getElem? (i := 24) rfl)) rfl, tg (tb_1 (List.mem_of_getElem? (i := 1) rfl)) rfl, ⟨by decide, by decide⟩, by decide +kernel, plainFor_of_name (by decide +kernel)⟩
theorem ms_X11_isPlace : Cond.static yX11_isPlace ∈ gtbl := tg (tb_6 (List.mem_of_getElem? (i := 23) rfl)) rfl
theorem my_X11_itemOf : MYk yX11_itemOf cX11_itemOf 4 (some .int) 3 := ⟨tg (tb_5 (List.mem_of_getElem? (i := 11) rfl)) rfl, tg (tb_1 (List.mem_of_getElem? (i := 1) rfl)) rfl, ⟨by decide, by decide⟩, by decide +kernel, plainFor_of_name (by decide +kernel)⟩
theorem mi_X11_itemOf : Cond.instanceMethod yX11_itemOf ∈ gtbl := tg (tb_5 (List.mem_of_getElem? (i := 10) rfl)) rfl
theorem msel_X11_itemOf : Cond.selects yX11_itemOf.cls yX11_itemOf yX11_itemOf ∈ gtbl := tg (List.mem_append_left _ (List.mem_map.mpr ⟨(⟨"SpanValues", "itemOf", "(III)I"⟩, _), (List.mem_append_right _ (List.mem_append_left _ (List.mem_of_getElem? (i := 9) rfl)) : _ ∈ lw_privs), rfl⟩)) rfl
theorem my_X11_laws : MYk yX11_laws cX11_laws 1 (some .int) 0 := ⟨tg (tb_5 (List.mem_of_getElem? (i := 203) rfl)) rfl, tg (tb_1 (List.mem_of_getElem? (i := 1) rfl)) rfl, ⟨by decide, by decide⟩, by decide +kernel, plainFor_of_name (by decide +kernel)⟩
theorem mi_X11_laws : Cond.instanceMethod yX11_laws ∈ gtbl := tg (tb_5 (List.mem_of_getElem? (i := 201) rfl)) rfl
theorem msel_X11_laws : Cond.selects yX11_laws.cls yX11_laws yX11_laws ∈ gtbl := tg (tb_5 (List.mem_of_getElem? (i := 202) rfl)) rfl
theorem my_X11_least : MYk yX11_least cX11_least 5 (some .int) 3 := ⟨tg (tb_5 (List.mem_of_getElem? (i := 24) rfl)) rfl, tg (tb_1 (List.mem_of_getElem? (i := 1) rfl)) rfl, ⟨by decide, by decide⟩, by decide +kernel, plainFor_of_name (by decide +kernel)⟩
theorem mi_X11_least : Cond.instanceMethod yX11_least ∈ gtbl := tg (tb_5 (List.mem_of_getElem? (i := 22) rfl)) rfl
theorem msel_X11_least : Cond.selects yX11_least.cls yX11_least yX11_least ∈ gtbl := tg (tb_5 (List.mem_of_getElem? (i := 23) rfl)) rfl
theorem my_X11_lettersAlone : MYk yX11_lettersAlone cX11_lettersAlone 3 (some .boolean) 1 := ⟨tg (tb_4 (List.mem_of_getElem? (i := 108) rfl)) rfl, tg (tb_1 (List.mem_of_getElem? (i := 1) rfl)) rfl, ⟨by decide, by decide⟩, by decide +kernel, plainFor_of_name (by decide +kernel)⟩
theorem mi_X11_lettersAlone : Cond.instanceMethod yX11_lettersAlone ∈ gtbl := tg (tb_4 (List.mem_of_getElem? (i := 107) rfl)) rfl
theorem msel_X11_lettersAlone : Cond.selects yX11_lettersAlone.cls yX11_lettersAlone yX11_lettersAlone ∈ gtbl := tg (List.mem_append_left _ (List.mem_map.mpr ⟨(⟨"SpanValues", "lettersAlone", "(I)Z"⟩, _), (List.mem_append_left _ (List.mem_of_getElem? (i := 15) rfl) : _ ∈ lw_privs), rfl⟩)) rfl
theorem my_X11_mend : MYk yX11_mend cX11_mend 2 (some .int) 1 := ⟨tg (tb_7 (List.mem_of_getElem? (i := 30) rfl)) rfl, tg (tb_1 (List.mem_of_getElem? (i := 1) rfl)) rfl, ⟨by decide, by decide⟩, by decide +kernel, plainFor_of_name (by decide +kernel)⟩
theorem mi_X11_mend : Cond.instanceMethod yX11_mend ∈ gtbl := tg (tb_7 (List.mem_of_getElem? (i := 28) rfl)) rfl
theorem msel_X11_mend : Cond.selects yX11_mend.cls yX11_mend yX11_mend ∈ gtbl := tg (tb_7 (List.mem_of_getElem? (i := 29) rfl)) rfl
theorem my_X11_mends : MYk yX11_mends cX11_mends 1 (some .int) 0 := ⟨tg (tb_6 (List.mem_of_getElem? (i := 225) rfl)) rfl, tg (tb_1 (List.mem_of_getElem? (i := 1) rfl)) rfl, ⟨by decide, by decide⟩, by decide +kernel, plainFor_of_name (by decide +kernel)⟩
theorem mi_X11_mends : Cond.instanceMethod yX11_mends ∈ gtbl := tg (tb_6 (List.mem_of_getElem? (i := 223) rfl)) rfl
theorem msel_X11_mends : Cond.selects yX11_mends.cls yX11_mends yX11_mends ∈ gtbl := tg (tb_6 (List.mem_of_getElem? (i := 224) rfl)) rfl
theorem my_X11_octet : MYk yX11_octet cX11_octet 2 (some .int) 1 := ⟨tg (tb_6 (List.mem_of_getElem? (i := 165) rfl)) rfl, tg (tb_1 (List.mem_of_getElem? (i := 1) rfl)) rfl, ⟨by decide, by decide⟩, by decide +kernel, plainFor_of_name (by decide +kernel)⟩
theorem mi_X11_octet : Cond.instanceMethod yX11_octet ∈ gtbl := tg (tb_6 (List.mem_of_getElem? (i := 163) rfl)) rfl
theorem msel_X11_octet : Cond.selects yX11_octet.cls yX11_octet yX11_octet ∈ gtbl := tg (tb_6 (List.mem_of_getElem? (i := 164) rfl)) rfl
theorem my_X11_prices : MYk yX11_prices cX11_prices 4 (some .int) 2 := ⟨tg (tb_4 (List.mem_of_getElem? (i := 239) rfl)) rfl, tg (tb_1 (List.mem_of_getElem? (i := 1) rfl)) rfl, ⟨by decide, by decide⟩, by decide +kernel, plainFor_of_name (by decide +kernel)⟩
theorem mi_X11_prices : Cond.instanceMethod yX11_prices ∈ gtbl := tg (tb_4 (List.mem_of_getElem? (i := 237) rfl)) rfl
theorem msel_X11_prices : Cond.selects yX11_prices.cls yX11_prices yX11_prices ∈ gtbl := tg (tb_4 (List.mem_of_getElem? (i := 238) rfl)) rfl
theorem my_X11_putFour : MYk yX11_putFour cX11_putFour 3 none 1 := ⟨tg (tb_3 (List.mem_of_getElem? (i := 156) rfl)) rfl, tg (tb_1 (List.mem_of_getElem? (i := 1) rfl)) rfl, ⟨by decide, by decide⟩, by decide +kernel, plainFor_of_name (by decide +kernel)⟩
theorem mi_X11_putFour : Cond.instanceMethod yX11_putFour ∈ gtbl := tg (tb_3 (List.mem_of_getElem? (i := 155) rfl)) rfl
theorem msel_X11_putFour : Cond.selects yX11_putFour.cls yX11_putFour yX11_putFour ∈ gtbl := tg (List.mem_append_left _ (List.mem_map.mpr ⟨(⟨"SpanValues", "putFour", "(I)V"⟩, _), (List.mem_append_left _ (List.mem_of_getElem? (i := 0) rfl) : _ ∈ lw_privs), rfl⟩)) rfl
theorem my_X11_rings : MYk yX11_rings cX11_rings 1 (some .int) 0 := ⟨tg (tb_7 (List.mem_of_getElem? (i := 34) rfl)) rfl, tg (tb_1 (List.mem_of_getElem? (i := 1) rfl)) rfl, ⟨by decide, by decide⟩, by decide +kernel, plainFor_of_name (by decide +kernel)⟩
theorem mi_X11_rings : Cond.instanceMethod yX11_rings ∈ gtbl := tg (tb_7 (List.mem_of_getElem? (i := 32) rfl)) rfl
theorem msel_X11_rings : Cond.selects yX11_rings.cls yX11_rings yX11_rings ∈ gtbl := tg (tb_7 (List.mem_of_getElem? (i := 33) rfl)) rfl
theorem my_X11_rounds : MYk yX11_rounds cX11_rounds 1 (some .int) 0 := ⟨tg (tb_5 (List.mem_of_getElem? (i := 198) rfl)) rfl, tg (tb_1 (List.mem_of_getElem? (i := 1) rfl)) rfl, ⟨by decide, by decide⟩, by decide +kernel, plainFor_of_name (by decide +kernel)⟩
theorem mi_X11_rounds : Cond.instanceMethod yX11_rounds ∈ gtbl := tg (tb_5 (List.mem_of_getElem? (i := 196) rfl)) rfl
theorem msel_X11_rounds : Cond.selects yX11_rounds.cls yX11_rounds yX11_rounds ∈ gtbl := tg (tb_5 (List.mem_of_getElem? (i := 197) rfl)) rfl
theorem my_X11_rule : MYk yX11_rule cX11_rule 3 (some .int) 2 := ⟨tg (tb_4 (List.mem_of_getElem? (i := 211) rfl)) rfl, tg (tb_1 (List.mem_of_getElem? (i := 1) rfl)) rfl, ⟨by decide, by decide⟩, by decide +kernel, plainFor_of_name (by decide +kernel)⟩
theorem mi_X11_rule : Cond.instanceMethod yX11_rule ∈ gtbl := tg (tb_4 (List.mem_of_getElem? (i := 209) rfl)) rfl
theorem msel_X11_rule : Cond.selects yX11_rule.cls yX11_rule yX11_rule ∈ gtbl := tg (tb_4 (List.mem_of_getElem? (i := 210) rfl)) rfl
theorem my_X11_say : MYk yX11_say cX11_say 2 (some .int) 0 := ⟨tg (tb_4 (List.mem_of_getElem? (i := 104) rfl)) rfl, tg (tb_1 (List.mem_of_getElem? (i := 1) rfl)) rfl, ⟨by decide, by decide⟩, by decide +kernel, plainFor_of_name (by decide +kernel)⟩
theorem mi_X11_say : Cond.instanceMethod yX11_say ∈ gtbl := tg (tb_4 (List.mem_of_getElem? (i := 102) rfl)) rfl
theorem msel_X11_say : Cond.selects yX11_say.cls yX11_say yX11_say ∈ gtbl := tg (tb_4 (List.mem_of_getElem? (i := 103) rfl)) rfl
theorem my_X11_settled : MYk yX11_settled cX11_settled 4 (some .int) 2 := ⟨tg (tb_6 (List.mem_of_getElem? (i := 1) rfl)) rfl, tg (tb_1 (List.mem_of_getElem? (i := 1) rfl)) rfl, ⟨by decide, by decide⟩, by decide +kernel, plainFor_of_name (by decide +kernel)⟩
theorem mi_X11_settled : Cond.instanceMethod yX11_settled ∈ gtbl := tg (tb_5 (List.mem_of_getElem? (i := 239) rfl)) rfl
theorem msel_X11_settled : Cond.selects yX11_settled.cls yX11_settled yX11_settled ∈ gtbl := tg (tb_6 (List.mem_of_getElem? (i := 0) rfl)) rfl
theorem my_X11_size : MYk yX11_size cX11_size 8 (some .int) 5 := ⟨tg (tb_6 (List.mem_of_getElem? (i := 86) rfl)) rfl, tg (tb_1 (List.mem_of_getElem? (i := 1) rfl)) rfl, ⟨by decide, by decide⟩, by decide +kernel, plainFor_of_name (by decide +kernel)⟩
theorem mi_X11_size : Cond.instanceMethod yX11_size ∈ gtbl := tg (tb_6 (List.mem_of_getElem? (i := 84) rfl)) rfl
theorem msel_X11_size : Cond.selects yX11_size.cls yX11_size yX11_size ∈ gtbl := tg (tb_6 (List.mem_of_getElem? (i := 85) rfl)) rfl
theorem my_X11_step : MYk yX11_step cX11_step 8 (some .int) 5 := ⟨tg (tb_6 (List.mem_of_getElem? (i := 111) rfl)) rfl, tg (tb_1 (List.mem_of_getElem? (i := 1) rfl)) rfl, ⟨by decide, by decide⟩, by decide +kernel, plainFor_of_name (by decide +kernel)⟩
theorem mi_X11_step : Cond.instanceMethod yX11_step ∈ gtbl := tg (tb_6 (List.mem_of_getElem? (i := 109) rfl)) rfl
theorem msel_X11_step : Cond.selects yX11_step.cls yX11_step yX11_step ∈ gtbl := tg (tb_6 (List.mem_of_getElem? (i := 110) rfl)) rfl
theorem my_X11_sum : MYk yX11_sum cX11_sum 5 (some .int) 3 := ⟨tg (tb_5 (List.mem_of_getElem? (i := 119) rfl)) rfl, tg (tb_1 (List.mem_of_getElem? (i := 1) rfl)) rfl, ⟨by decide, by decide⟩, by decide +kernel, plainFor_of_name (by decide +kernel)⟩
theorem mi_X11_sum : Cond.instanceMethod yX11_sum ∈ gtbl := tg (tb_5 (List.mem_of_getElem? (i := 117) rfl)) rfl
theorem msel_X11_sum : Cond.selects yX11_sum.cls yX11_sum yX11_sum ∈ gtbl := tg (tb_5 (List.mem_of_getElem? (i := 118) rfl)) rfl
theorem my_X11_table : MYk yX11_table cX11_table 4 (some .int) 3 := ⟨tg (tb_4 (List.mem_of_getElem? (i := 219) rfl)) rfl, tg (tb_1 (List.mem_of_getElem? (i := 1) rfl)) rfl, ⟨by decide, by decide⟩, by decide +kernel, plainFor_of_name (by decide +kernel)⟩
theorem mi_X11_table : Cond.instanceMethod yX11_table ∈ gtbl := tg (tb_4 (List.mem_of_getElem? (i := 217) rfl)) rfl
theorem msel_X11_table : Cond.selects yX11_table.cls yX11_table yX11_table ∈ gtbl := tg (tb_4 (List.mem_of_getElem? (i := 218) rfl)) rfl
theorem my_X11_tell : MYk yX11_tell cX11_tell 7 (some .int) 4 := ⟨tg (tb_6 (List.mem_of_getElem? (i := 145) rfl)) rfl, tg (tb_1 (List.mem_of_getElem? (i := 1) rfl)) rfl, ⟨by decide, by decide⟩, by decide +kernel, plainFor_of_name (by decide +kernel)⟩
theorem mi_X11_tell : Cond.instanceMethod yX11_tell ∈ gtbl := tg (tb_6 (List.mem_of_getElem? (i := 143) rfl)) rfl
theorem msel_X11_tell : Cond.selects yX11_tell.cls yX11_tell yX11_tell ∈ gtbl := tg (tb_6 (List.mem_of_getElem? (i := 144) rfl)) rfl
theorem my_X11_tellNumber : MYk yX11_tellNumber cX11_tellNumber 2 (some .long) 1 := ⟨tg (tb_5 (List.mem_of_getElem? (i := 80) rfl)) rfl, tg (tb_1 (List.mem_of_getElem? (i := 1) rfl)) rfl, ⟨by decide, by decide⟩, by decide +kernel, plainFor_of_name (by decide +kernel)⟩
theorem ms_X11_tellNumber : Cond.static yX11_tellNumber ∈ gtbl := tg (tb_5 (List.mem_of_getElem? (i := 79) rfl)) rfl
theorem my_X11_used : MYk yX11_used cX11_used 6 (some .long) 4 := ⟨tg (tb_5 (List.mem_of_getElem? (i := 94) rfl)) rfl, tg (tb_1 (List.mem_of_getElem? (i := 1) rfl)) rfl, ⟨by decide, by decide⟩, by decide +kernel, plainFor_of_name (by decide +kernel)⟩
theorem mi_X11_used : Cond.instanceMethod yX11_used ∈ gtbl := tg (tb_5 (List.mem_of_getElem? (i := 92) rfl)) rfl
theorem msel_X11_used : Cond.selects yX11_used.cls yX11_used yX11_used ∈ gtbl := tg (tb_5 (List.mem_of_getElem? (i := 93) rfl)) rfl
theorem my_X11_value : MYk yX11_value cX11_value 5 (some .int) 3 := ⟨tg (tb_5 (List.mem_of_getElem? (i := 164) rfl)) rfl, tg (tb_1 (List.mem_of_getElem? (i := 1) rfl)) rfl, ⟨by decide, by decide⟩, by decide +kernel, plainFor_of_name (by decide +kernel)⟩
theorem mi_X11_value : Cond.instanceMethod yX11_value ∈ gtbl := tg (tb_5 (List.mem_of_getElem? (i := 162) rfl)) rfl
theorem msel_X11_value : Cond.selects yX11_value.cls yX11_value yX11_value ∈ gtbl := tg (tb_5 (List.mem_of_getElem? (i := 163) rfl)) rfl
theorem my_X11_ways : MYk yX11_ways cX11_ways 5 (some .long) 3 := ⟨tg (tb_5 (List.mem_of_getElem? (i := 28) rfl)) rfl, tg (tb_1 (List.mem_of_getElem? (i := 1) rfl)) rfl, ⟨by decide, by decide⟩, by decide +kernel, plainFor_of_name (by decide +kernel)⟩
theorem mi_X11_ways : Cond.instanceMethod yX11_ways ∈ gtbl := tg (tb_5 (List.mem_of_getElem? (i := 26) rfl)) rfl
theorem msel_X11_ways : Cond.selects yX11_ways.cls yX11_ways yX11_ways ∈ gtbl := tg (tb_5 (List.mem_of_getElem? (i := 27) rfl)) rfl
theorem my_X11_wholeItem : MYk yX11_wholeItem cX11_wholeItem 1 (some .int) 0 := ⟨tg (tb_6 (List.mem_of_getElem? (i := 127) rfl)) rfl, tg (tb_1 (List.mem_of_getElem? (i := 1) rfl)) rfl, ⟨by decide, by decide⟩, by decide +kernel, plainFor_of_name (by decide +kernel)⟩
theorem mi_X11_wholeItem : Cond.instanceMethod yX11_wholeItem ∈ gtbl := tg (tb_6 (List.mem_of_getElem? (i := 126) rfl)) rfl
theorem msel_X11_wholeItem : Cond.selects yX11_wholeItem.cls yX11_wholeItem yX11_wholeItem ∈ gtbl := tg (List.mem_append_left _ (List.mem_map.mpr ⟨(⟨"SpanValues", "wholeItem", "()I"⟩, _), (List.mem_append_right _ (List.mem_append_right _ (List.mem_append_right _ (List.mem_append_left _ (List.mem_of_getElem? (i := 13) rfl)))) : _ ∈ lw_privs), rfl⟩)) rfl
theorem my_X11_without : MYk yX11_without cX11_without 3 (some .int) 1 := ⟨tg (tb_6 (List.mem_of_getElem? (i := 213) rfl)) rfl, tg (tb_1 (List.mem_of_getElem? (i := 1) rfl)) rfl, ⟨by decide, by decide⟩, by decide +kernel, plainFor_of_name (by decide +kernel)⟩
theorem mi_X11_without : Cond.instanceMethod yX11_without ∈ gtbl := tg (tb_6 (List.mem_of_getElem? (i := 211) rfl)) rfl
theorem msel_X11_without : Cond.selects yX11_without.cls yX11_without yX11_without ∈ gtbl := tg (tb_6 (List.mem_of_getElem? (i := 212) rfl)) rfl
theorem my_X12_advance : MYk yX12_advance cX12_advance 2 none 0 := ⟨tg (tb_8 (List.mem_of_getElem? (i := 44) rfl)) rfl, tg (tb_1 (List.mem_of_getElem? (i := 13) rfl)) rfl, ⟨by decide, by decide⟩, by decide +kernel, plainFor_of_name (by decide +kernel)⟩
theorem mi_X12_advance : Cond.instanceMethod yX12_advance ∈ gtbl := tg (tb_8 (List.mem_of_getElem? (i := 43) rfl)) rfl
theorem msel_X12_advance : Cond.selects yX12_advance.cls yX12_advance yX12_advance ∈ gtbl := tg (List.mem_append_left _ (List.mem_map.mpr ⟨(⟨"SpanValuesModel", "advance", "()V"⟩, _), (List.mem_append_right _ (List.mem_append_right _ (List.mem_append_right _ (List.mem_append_right _ (List.mem_append_left _ (List.mem_of_getElem? (i := 14) rfl))))) : _ ∈ lw_privs), rfl⟩)) rfl
theorem my_X12_alike : MYk yX12_alike cX12_alike 9 (some .int) 5 := ⟨tg (tb_10 (List.mem_of_getElem? (i := 9) rfl)) rfl, tg (tb_1 (List.mem_of_getElem? (i := 13) rfl)) rfl, ⟨by decide, by decide⟩, by decide +kernel, plainFor_of_name (by decide +kernel)⟩
theorem mi_X12_alike : Cond.instanceMethod yX12_alike ∈ gtbl := tg (tb_10 (List.mem_of_getElem? (i := 7) rfl)) rfl
theorem msel_X12_alike : Cond.selects yX12_alike.cls yX12_alike yX12_alike ∈ gtbl := tg (tb_10 (List.mem_of_getElem? (i := 8) rfl)) rfl
theorem my_X12_alive : MYk yX12_alive cX12_alive 7 (some .long) 0 := ⟨tg (tb_10 (List.mem_of_getElem? (i := 82) rfl)) rfl, tg (tb_1 (List.mem_of_getElem? (i := 13) rfl)) rfl, ⟨by decide, by decide⟩, by decide +kernel, plainFor_of_name (by decide +kernel)⟩
theorem mi_X12_alive : Cond.instanceMethod yX12_alive ∈ gtbl := tg (tb_10 (List.mem_of_getElem? (i := 80) rfl)) rfl
theorem msel_X12_alive : Cond.selects yX12_alive.cls yX12_alive yX12_alive ∈ gtbl := tg (tb_10 (List.mem_of_getElem? (i := 81) rfl)) rfl
theorem my_X12_areAlike : MYk yX12_areAlike cX12_areAlike 3 (some .boolean) 2 := ⟨tg (tb_10 (List.mem_of_getElem? (i := 13) rfl)) rfl, tg (tb_1 (List.mem_of_getElem? (i := 13) rfl)) rfl, ⟨by decide, by decide⟩, by decide +kernel, plainFor_of_name (by decide +kernel)⟩
theorem mi_X12_areAlike : Cond.instanceMethod yX12_areAlike ∈ gtbl := tg (tb_10 (List.mem_of_getElem? (i := 12) rfl)) rfl
theorem msel_X12_areAlike : Cond.selects yX12_areAlike.cls yX12_areAlike yX12_areAlike ∈ gtbl := tg (List.mem_append_left _ (List.mem_map.mpr ⟨(⟨"SpanValuesModel", "areAlike", "(II)Z"⟩, _), (List.mem_append_right _ (List.mem_append_right _ (List.mem_append_right _ (List.mem_append_right _ (List.mem_append_right _ (List.mem_append_right _ (List.mem_append_right _ (List.mem_append_right _ (List.mem_append_right _ (List.mem_append_left _ (List.mem_of_getElem? (i := 9) rfl)))))))))) : _ ∈ lw_privs), rfl⟩)) rfl
theorem my_X12_best : MYk yX12_best cX12_best 6 (some .int) 4 := ⟨tg (tb_9 (List.mem_of_getElem? (i := 158) rfl)) rfl, tg (tb_1 (List.mem_of_getElem? (i := 13) rfl)) rfl, ⟨by decide, by decide⟩, by decide +kernel, plainFor_of_name (by decide +kernel)⟩
theorem mi_X12_best : Cond.instanceMethod yX12_best ∈ gtbl := tg (tb_9 (List.mem_of_getElem? (i := 156) rfl)) rfl
theorem msel_X12_best : Cond.selects yX12_best.cls yX12_best yX12_best ∈ gtbl := tg (tb_9 (List.mem_of_getElem? (i := 157) rfl)) rfl
theorem my_X12_bounds : MYk yX12_bounds cX12_bounds 5 (some .int) 3 := ⟨tg (tb_10 (List.mem_of_getElem? (i := 1) rfl)) rfl, tg (tb_1 (List.mem_of_getElem? (i := 13) rfl)) rfl, ⟨by decide, by decide⟩, by decide +kernel, plainFor_of_name (by decide +kernel)⟩
theorem mi_X12_bounds : Cond.instanceMethod yX12_bounds ∈ gtbl := tg (tb_9 (List.mem_of_getElem? (i := 239) rfl)) rfl
theorem msel_X12_bounds : Cond.selects yX12_bounds.cls yX12_bounds yX12_bounds ∈ gtbl := tg (tb_10 (List.mem_of_getElem? (i := 0) rfl)) rfl
theorem my_X12_brings : MYk yX12_brings cX12_brings 7 (some .boolean) 3 := ⟨tg (tb_9 (List.mem_of_getElem? (i := 55) rfl)) rfl, tg (tb_1 (List.mem_of_getElem? (i := 13) rfl)) rfl, ⟨by decide, by decide⟩, by decide +kernel, plainFor_of_name (by decide +kernel)⟩
theorem mi_X12_brings : Cond.instanceMethod yX12_brings ∈ gtbl := tg (tb_9 (List.mem_of_getElem? (i := 54) rfl)) rfl
theorem msel_X12_brings : Cond.selects yX12_brings.cls yX12_brings yX12_brings ∈ gtbl := tg (List.mem_append_left _ (List.mem_map.mpr ⟨(⟨"SpanValuesModel", "brings", "(III)Z"⟩, _), (List.mem_append_right _ (List.mem_append_right _ (List.mem_append_right _ (List.mem_append_right _ (List.mem_append_right _ (List.mem_append_right _ (List.mem_append_right _ (List.mem_append_left _ (List.mem_of_getElem? (i := 6) rfl)))))))) : _ ∈ lw_privs), rfl⟩)) rfl
theorem my_X12_can : MYk yX12_can cX12_can 4 (some .int) 3 := ⟨tg (tb_8 (List.mem_of_getElem? (i := 155) rfl)) rfl, tg (tb_1 (List.mem_of_getElem? (i := 13) rfl)) rfl, ⟨by decide, by decide⟩, by decide +kernel, plainFor_of_name (by decide +kernel)⟩
theorem mi_X12_can : Cond.instanceMethod yX12_can ∈ gtbl := tg (tb_8 (List.mem_of_getElem? (i := 153) rfl)) rfl
theorem msel_X12_can : Cond.selects yX12_can.cls yX12_can yX12_can ∈ gtbl := tg (tb_8 (List.mem_of_getElem? (i := 154) rfl)) rfl
theorem my_X12_cases : MYk yX12_cases cX12_cases 5 (some .int) 4 := ⟨tg (tb_9 (List.mem_of_getElem? (i := 126) rfl)) rfl, tg (tb_1 (List.mem_of_getElem? (i := 13) rfl)) rfl, ⟨by decide, by decide⟩, by decide +kernel, plainFor_of_name (by decide +kernel)⟩
theorem mi_X12_cases : Cond.instanceMethod yX12_cases ∈ gtbl := tg (tb_9 (List.mem_of_getElem? (i := 124) rfl)) rfl
theorem msel_X12_cases : Cond.selects yX12_cases.cls yX12_cases yX12_cases ∈ gtbl := tg (tb_9 (List.mem_of_getElem? (i := 125) rfl)) rfl
theorem my_X12_casesOf : MYk yX12_casesOf cX12_casesOf 9 (some .int) 4 := ⟨tg (tb_9 (List.mem_of_getElem? (i := 139) rfl)) rfl, tg (tb_1 (List.mem_of_getElem? (i := 13) rfl)) rfl, ⟨by decide, by decide⟩, by decide +kernel, plainFor_of_name (by decide +kernel)⟩
theorem mi_X12_casesOf : Cond.instanceMethod yX12_casesOf ∈ gtbl := tg (tb_9 (List.mem_of_getElem? (i := 138) rfl)) rfl
theorem msel_X12_casesOf : Cond.selects yX12_casesOf.cls yX12_casesOf yX12_casesOf ∈ gtbl := tg (List.mem_append_left _ (List.mem_map.mpr ⟨(⟨"SpanValuesModel", "casesOf", "(IIIZ)I"⟩, _), (List.mem_append_right _ (List.mem_append_right _ (List.mem_append_right _ (List.mem_append_right _ (List.mem_append_right _ (List.mem_append_right _ (List.mem_append_right _ (List.mem_append_right _ (List.mem_append_left _ (List.mem_of_getElem? (i := 5) rfl))))))))) : _ ∈ lw_privs), rfl⟩)) rfl
theorem my_X12_casesWith : MYk yX12_casesWith cX12_casesWith 9 (some .int) 3 := ⟨tg (tb_9 (List.mem_of_getElem? (i := 131) rfl)) rfl, tg (tb_1 (List.mem_of_getElem? (i := 13) rfl)) rfl, ⟨by decide, by decide⟩, by decide +kernel, plainFor_of_name (by decide +kernel)⟩
theorem mi_X12_casesWith : Cond.instanceMethod yX12_casesWith ∈ gtbl := tg (tb_9 (List.mem_of_getElem? (i := 130) rfl)) rfl
theorem msel_X12_casesWith : Cond.selects yX12_casesWith.cls yX12_casesWith yX12_casesWith ∈ gtbl := tg (List.mem_append_left _ (List.mem_map.mpr ⟨(⟨"SpanValuesModel", "casesWith", "(III)I"⟩, _), (List.mem_append_right _ (List.mem_append_right _ (List.mem_append_right _ (List.mem_append_right _ (List.mem_append_right _ (List.mem_append_right _ (List.mem_append_right _ (List.mem_append_right _ (List.mem_append_left _ (List.mem_of_getElem? (i := 3) rfl))))))))) : _ ∈ lw_privs), rfl⟩)) rfl
theorem my_X12_cheap : MYk yX12_cheap cX12_cheap 8 (some .long) 4 := ⟨tg (tb_10 (List.mem_of_getElem? (i := 37) rfl)) rfl, tg (tb_1 (List.mem_of_getElem? (i := 13) rfl)) rfl, ⟨by decide, by decide⟩, by decide +kernel, plainFor_of_name (by decide +kernel)⟩
theorem mi_X12_cheap : Cond.instanceMethod yX12_cheap ∈ gtbl := tg (tb_10 (List.mem_of_getElem? (i := 35) rfl)) rfl
theorem msel_X12_cheap : Cond.selects yX12_cheap.cls yX12_cheap yX12_cheap ∈ gtbl := tg (tb_10 (List.mem_of_getElem? (i := 36) rfl)) rfl
theorem my_X12_cheapPart : MYk yX12_cheapPart cX12_cheapPart 5 (some .long) 4 := ⟨tg (tb_10 (List.mem_of_getElem? (i := 46) rfl)) rfl, tg (tb_1 (List.mem_of_getElem? (i := 13) rfl)) rfl, ⟨by decide, by decide⟩, by decide +kernel, plainFor_of_name (by decide +kernel)⟩
theorem mi_X12_cheapPart : Cond.instanceMethod yX12_cheapPart ∈ gtbl := tg (tb_10 (List.mem_of_getElem? (i := 45) rfl)) rfl
theorem msel_X12_cheapPart : Cond.selects yX12_cheapPart.cls yX12_cheapPart yX12_cheapPart ∈ gtbl := tg (List.mem_append_left _ (List.mem_map.mpr ⟨(⟨"SpanValuesModel", "cheapPart", "(IIII)J"⟩, _), (List.mem_append_right _ (List.mem_append_right _ (List.mem_append_right _ (List.mem_append_right _ (List.mem_append_right _ (List.mem_append_right _ (List.mem_append_right _ (List.mem_append_right _ (List.mem_append_right _ (List.mem_append_left _ (List.mem_of_getElem? (i := 14) rfl)))))))))) : _ ∈ lw_privs), rfl⟩)) rfl
theorem my_X12_cheapTwos : MYk yX12_cheapTwos cX12_cheapTwos 13 (some .long) 4 := ⟨tg (tb_10 (List.mem_of_getElem? (i := 50) rfl)) rfl, tg (tb_1 (List.mem_of_getElem? (i := 13) rfl)) rfl, ⟨by decide, by decide⟩, by decide +kernel, plainFor_of_name (by decide +kernel)⟩
theorem mi_X12_cheapTwos : Cond.instanceMethod yX12_cheapTwos ∈ gtbl := tg (tb_10 (List.mem_of_getElem? (i := 49) rfl)) rfl
theorem msel_X12_cheapTwos : Cond.selects yX12_cheapTwos.cls yX12_cheapTwos yX12_cheapTwos ∈ gtbl := tg (List.mem_append_left _ (List.mem_map.mpr ⟨(⟨"SpanValuesModel", "cheapTwos", "(IIII)J"⟩, _), (List.mem_append_right _ (List.mem_append_right _ (List.mem_append_right _ (List.mem_append_right _ (List.mem_append_right _ (List.mem_append_right _ (List.mem_append_right _ (List.mem_append_right _ (List.mem_append_right _ (List.mem_append_left _ (List.mem_of_getElem? (i := 15) rfl)))))))))) : _ ∈ lw_privs), rfl⟩)) rfl
theorem my_X12_clears : MYk yX12_clears cX12_clears 9 (some .boolean) 1 := ⟨tg (tb_9 (List.mem_of_getElem? (i := 75) rfl)) rfl, tg (tb_1 (List.mem_of_getElem? (i := 13) rfl)) rfl, ⟨by decide, by decide⟩, by decide +kernel, plainFor_of_name (by decide +kernel)⟩
theorem mi_X12_clears : Cond.instanceMethod yX12_clears ∈ gtbl := tg (tb_9 (List.mem_of_getElem? (i := 74) rfl)) rfl
theorem msel_X12_clears : Cond.selects yX12_clears.cls yX12_clears yX12_clears ∈ gtbl := tg (List.mem_append_left _ (List.mem_map.mpr ⟨(⟨"SpanValuesModel", "clears", "(I)Z"⟩, _), (List.mem_append_right _ (List.mem_append_right _ (List.mem_append_right _ (List.mem_append_right _ (List.mem_append_right _ (List.mem_append_right _ (List.mem_append_right _ (List.mem_append_left _ (List.mem_of_getElem? (i := 10) rfl)))))))) : _ ∈ lw_privs), rfl⟩)) rfl
theorem my_X12_comes : MYk yX12_comes cX12_comes 5 none 1 := ⟨tg (tb_9 (List.mem_of_getElem? (i := 201) rfl)) rfl, tg (tb_1 (List.mem_of_getElem? (i := 13) rfl)) rfl, ⟨by decide, by decide⟩, by decide +kernel, plainFor_of_name (by decide +kernel)⟩
theorem mi_X12_comes : Cond.instanceMethod yX12_comes ∈ gtbl := tg (tb_9 (List.mem_of_getElem? (i := 200) rfl)) rfl
theorem msel_X12_comes : Cond.selects yX12_comes.cls yX12_comes yX12_comes ∈ gtbl := tg (List.mem_append_left _ (List.mem_map.mpr ⟨(⟨"SpanValuesModel", "comes", "(I)V"⟩, _), (List.mem_append_right _ (List.mem_append_right _ (List.mem_append_right _ (List.mem_append_right _ (List.mem_append_right _ (List.mem_append_right _ (List.mem_append_right _ (List.mem_append_right _ (List.mem_append_right _ (List.mem_append_left _ (List.mem_of_getElem? (i := 0) rfl)))))))))) : _ ∈ lw_privs), rfl⟩)) rfl
theorem my_X12_costNode : MYk yX12_costNode cX12_costNode 2 (some .int) 1 := ⟨tg (tb_9 (List.mem_of_getElem? (i := 189) rfl)) rfl, tg (tb_1 (List.mem_of_getElem? (i := 13) rfl)) rfl, ⟨by decide, by decide⟩, by decide +kernel, plainFor_of_name (by decide +kernel)⟩
theorem mi_X12_costNode : Cond.instanceMethod yX12_costNode ∈ gtbl := tg (tb_9 (List.mem_of_getElem? (i := 188) rfl)) rfl
theorem msel_X12_costNode : Cond.selects yX12_costNode.cls yX12_costNode yX12_costNode ∈ gtbl := tg (List.mem_append_left _ (List.mem_map.mpr ⟨(⟨"SpanValuesModel", "costNode", "(I)I"⟩, _), (List.mem_append_right _ (List.mem_append_right _ (List.mem_append_right _ (List.mem_append_right _ (List.mem_append_right _ (List.mem_append_right _ (List.mem_append_right _ (List.mem_append_right _ (List.mem_append_left _ (List.mem_of_getElem? (i := 13) rfl))))))))) : _ ∈ lw_privs), rfl⟩)) rfl
theorem my_X12_count : MYk yX12_count cX12_count 2 (some .int) 1 := ⟨tg (tb_10 (List.mem_of_getElem? (i := 89) rfl)) rfl, tg (tb_1 (List.mem_of_getElem? (i := 13) rfl)) rfl, ⟨by decide, by decide⟩, by decide +kernel, plainFor_of_name (by decide +kernel)⟩
theorem mi_X12_count : Cond.instanceMethod yX12_count ∈ gtbl := tg (tb_10 (List.mem_of_getElem? (i := 87) rfl)) rfl
theorem msel_X12_count : Cond.selects yX12_count.cls yX12_count yX12_count ∈ gtbl := tg (tb_10 (List.mem_of_getElem? (i := 88) rfl)) rfl
theorem my_X12_dearPart : MYk yX12_dearPart cX12_dearPart 4 (some .int) 3 := ⟨tg (tb_9 (List.mem_of_getElem? (i := 30) rfl)) rfl, tg (tb_1 (List.mem_of_getElem? (i := 13) rfl)) rfl, ⟨by decide, by decide⟩, by decide +kernel, plainFor_of_name (by decide +kernel)⟩
theorem mi_X12_dearPart : Cond.instanceMethod yX12_dearPart ∈ gtbl := tg (tb_9 (List.mem_of_getElem? (i := 29) rfl)) rfl
theorem msel_X12_dearPart : Cond.selects yX12_dearPart.cls yX12_dearPart yX12_dearPart ∈ gtbl := tg (List.mem_append_left _ (List.mem_map.mpr ⟨(⟨"SpanValuesModel", "dearPart", "(III)I"⟩, _), (List.mem_append_right _ (List.mem_append_right _ (List.mem_append_right _ (List.mem_append_right _ (List.mem_append_right _ (List.mem_append_right _ (List.mem_append_right _ (List.mem_append_left _ (List.mem_of_getElem? (i := 2) rfl)))))))) : _ ∈ lw_privs), rfl⟩)) rfl
theorem my_X12_dearest : MYk yX12_dearest cX12_dearest 6 (some .int) 3 := ⟨tg (tb_9 (List.mem_of_getElem? (i := 18) rfl)) rfl, tg (tb_1 (List.mem_of_getElem? (i := 13) rfl)) rfl, ⟨by decide, by decide⟩, by decide +kernel, plainFor_of_name (by decide +kernel)⟩
theorem mi_X12_dearest : Cond.instanceMethod yX12_dearest ∈ gtbl := tg (tb_9 (List.mem_of_getElem? (i := 16) rfl)) rfl
theorem msel_X12_dearest : Cond.selects yX12_dearest.cls yX12_dearest yX12_dearest ∈ gtbl := tg (tb_9 (List.mem_of_getElem? (i := 17) rfl)) rfl
theorem my_X12_deepNode : MYk yX12_deepNode cX12_deepNode 2 (some .int) 1 := ⟨tg (tb_9 (List.mem_of_getElem? (i := 197) rfl)) rfl, tg (tb_1 (List.mem_of_getElem? (i := 13) rfl)) rfl, ⟨by decide, by decide⟩, by decide +kernel, plainFor_of_name (by decide +kernel)⟩
theorem mi_X12_deepNode : Cond.instanceMethod yX12_deepNode ∈ gtbl := tg (tb_9 (List.mem_of_getElem? (i := 196) rfl)) rfl
theorem msel_X12_deepNode : Cond.selects yX12_deepNode.cls yX12_deepNode yX12_deepNode ∈ gtbl := tg (List.mem_append_left _ (List.mem_map.mpr ⟨(⟨"SpanValuesModel", "deepNode", "(I)I"⟩, _), (List.mem_append_right _ (List.mem_append_right _ (List.mem_append_right _ (List.mem_append_right _ (List.mem_append_right _ (List.mem_append_right _ (List.mem_append_right _ (List.mem_append_right _ (List.mem_append_left _ (List.mem_of_getElem? (i := 15) rfl))))))))) : _ ∈ lw_privs), rfl⟩)) rfl
theorem my_X12_drops : MYk yX12_drops cX12_drops 5 (some .int) 2 := ⟨tg (tb_8 (List.mem_of_getElem? (i := 141) rfl)) rfl, tg (tb_1 (List.mem_of_getElem? (i := 13) rfl)) rfl, ⟨by decide, by decide⟩, by decide +kernel, plainFor_of_name (by decide +kernel)⟩
theorem mi_X12_drops : Cond.instanceMethod yX12_drops ∈ gtbl := tg (tb_8 (List.mem_of_getElem? (i := 139) rfl)) rfl
theorem msel_X12_drops : Cond.selects yX12_drops.cls yX12_drops yX12_drops ∈ gtbl := tg (tb_8 (List.mem_of_getElem? (i := 140) rfl)) rfl
theorem my_X12_elements : MYk yX12_elements cX12_elements 4 (some .int) 2 := ⟨tg (tb_8 (List.mem_of_getElem? (i := 151) rfl)) rfl, tg (tb_1 (List.mem_of_getElem? (i := 13) rfl)) rfl, ⟨by decide, by decide⟩, by decide +kernel, plainFor_of_name (by decide +kernel)⟩
theorem mi_X12_elements : Cond.instanceMethod yX12_elements ∈ gtbl := tg (tb_8 (List.mem_of_getElem? (i := 149) rfl)) rfl
theorem msel_X12_elements : Cond.selects yX12_elements.cls yX12_elements yX12_elements ∈ gtbl := tg (tb_8 (List.mem_of_getElem? (i := 150) rfl)) rfl
theorem my_X12_end : MYk yX12_end cX12_end 2 (some .int) 1 := ⟨tg (tb_8 (List.mem_of_getElem? (i := 33) rfl)) rfl, tg (tb_1 (List.mem_of_getElem? (i := 13) rfl)) rfl, ⟨by decide, by decide⟩, by decide +kernel, plainFor_of_name (by decide +kernel)⟩
theorem mi_X12_end : Cond.instanceMethod yX12_end ∈ gtbl := tg (tb_8 (List.mem_of_getElem? (i := 31) rfl)) rfl
theorem msel_X12_end : Cond.selects yX12_end.cls yX12_end yX12_end ∈ gtbl := tg (tb_8 (List.mem_of_getElem? (i := 32) rfl)) rfl
theorem my_X12_errs : MYk yX12_errs cX12_errs 2 none 1 := ⟨tg (tb_8 (List.mem_of_getElem? (i := 78) rfl)) rfl, tg (tb_1 (List.mem_of_getElem? (i := 13) rfl)) rfl, ⟨by decide, by decide⟩, by decide +kernel, plainFor_of_name (by decide +kernel)⟩
theorem mi_X12_errs : Cond.instanceMethod yX12_errs ∈ gtbl := tg (tb_8 (List.mem_of_getElem? (i := 77) rfl)) rfl
theorem msel_X12_errs : Cond.selects yX12_errs.cls yX12_errs yX12_errs ∈ gtbl := tg (List.mem_append_left _ (List.mem_map.mpr ⟨(⟨"SpanValuesModel", "errs", "(I)V"⟩, _), (List.mem_append_right _ (List.mem_append_right _ (List.mem_append_right _ (List.mem_append_right _ (List.mem_append_right _ (List.mem_append_left _ (List.mem_of_getElem? (i := 4) rfl)))))) : _ ∈ lw_privs), rfl⟩)) rfl
theorem my_X12_failsPart : MYk yX12_failsPart cX12_failsPart 4 (some .boolean) 3 := ⟨tg (tb_9 (List.mem_of_getElem? (i := 63) rfl)) rfl, tg (tb_1 (List.mem_of_getElem? (i := 13) rfl)) rfl, ⟨by decide, by decide⟩, by decide +kernel, plainFor_of_name (by decide +kernel)⟩
theorem mi_X12_failsPart : Cond.instanceMethod yX12_failsPart ∈ gtbl := tg (tb_9 (List.mem_of_getElem? (i := 62) rfl)) rfl
theorem msel_X12_failsPart : Cond.selects yX12_failsPart.cls yX12_failsPart yX12_failsPart ∈ gtbl := tg (List.mem_append_left _ (List.mem_map.mpr ⟨(⟨"SpanValuesModel", "failsPart", "(III)Z"⟩, _), (List.mem_append_right _ (List.mem_append_right _ (List.mem_append_right _ (List.mem_append_right _ (List.mem_append_right _ (List.mem_append_right _ (List.mem_append_right _ (List.mem_append_left _ (List.mem_of_getElem? (i := 8) rfl)))))))) : _ ∈ lw_privs), rfl⟩)) rfl
theorem my_X12_fault : MYk yX12_fault cX12_fault 2 (some .int) 1 := ⟨tg (tb_8 (List.mem_of_getElem? (i := 109) rfl)) rfl, tg (tb_1 (List.mem_of_getElem? (i := 13) rfl)) rfl, ⟨by decide, by decide⟩, by decide +kernel, plainFor_of_name (by decide +kernel)⟩
theorem mi_X12_fault : Cond.instanceMethod yX12_fault ∈ gtbl := tg (tb_8 (List.mem_of_getElem? (i := 107) rfl)) rfl
theorem msel_X12_fault : Cond.selects yX12_fault.cls yX12_fault yX12_fault ∈ gtbl := tg (tb_8 (List.mem_of_getElem? (i := 108) rfl)) rfl
theorem my_X12_feed : MYk yX12_feed cX12_feed 7 (some .int) 5 := ⟨tg (tb_8 (List.mem_of_getElem? (i := 29) rfl)) rfl, tg (tb_1 (List.mem_of_getElem? (i := 13) rfl)) rfl, ⟨by decide, by decide⟩, by decide +kernel, plainFor_of_name (by decide +kernel)⟩
theorem mi_X12_feed : Cond.instanceMethod yX12_feed ∈ gtbl := tg (tb_8 (List.mem_of_getElem? (i := 27) rfl)) rfl
theorem msel_X12_feed : Cond.selects yX12_feed.cls yX12_feed yX12_feed ∈ gtbl := tg (tb_8 (List.mem_of_getElem? (i := 28) rfl)) rfl
theorem my_X12_firstPending : MYk yX12_firstPending cX12_firstPending 4 (some .int) 0 := ⟨tg (tb_9 (List.mem_of_getElem? (i := 221) rfl)) rfl, tg (tb_1 (List.mem_of_getElem? (i := 13) rfl)) rfl, ⟨by decide, by decide⟩, by decide +kernel, plainFor_of_name (by decide +kernel)⟩
theorem mi_X12_firstPending : Cond.instanceMethod yX12_firstPending ∈ gtbl := tg (tb_9 (List.mem_of_getElem? (i := 220) rfl)) rfl
theorem msel_X12_firstPending : Cond.selects yX12_firstPending.cls yX12_firstPending yX12_firstPending ∈ gtbl := tg (List.mem_append_left _ (List.mem_map.mpr ⟨(⟨"SpanValuesModel", "firstPending", "()I"⟩, _), (List.mem_append_right _ (List.mem_append_right _ (List.mem_append_right _ (List.mem_append_right _ (List.mem_append_right _ (List.mem_append_right _ (List.mem_append_right _ (List.mem_append_right _ (List.mem_append_right _ (List.mem_append_left _ (List.mem_of_getElem? (i := 5) rfl)))))))))) : _ ∈ lw_privs), rfl⟩)) rfl
theorem my_X12_fits : MYk yX12_fits cX12_fits 4 (some .boolean) 3 := ⟨tg (tb_8 (List.mem_of_getElem? (i := 185) rfl)) rfl, tg (tb_1 (List.mem_of_getElem? (i := 13) rfl)) rfl, ⟨by decide, by decide⟩, by decide +kernel, plainFor_of_name (by decide +kernel)⟩
theorem mi_X12_fits : Cond.instanceMethod yX12_fits ∈ gtbl := tg (tb_8 (List.mem_of_getElem? (i := 184) rfl)) rfl
theorem msel_X12_fits : Cond.selects yX12_fits.cls yX12_fits yX12_fits ∈ gtbl := tg (List.mem_append_left _ (List.mem_map.mpr ⟨(⟨"SpanValuesModel", "fits", "(III)Z"⟩, _), (List.mem_append_right _ (List.mem_append_right _ (List.mem_append_right _ (List.mem_append_right _ (List.mem_append_right _ (List.mem_append_right _ (List.mem_append_left _ (List.mem_of_getElem? (i := 4) rfl))))))) : _ ∈ lw_privs), rfl⟩)) rfl
theorem my_X12_formOf : MYk yX12_formOf cX12_formOf 6 (some .int) 2 := ⟨tg (tb_9 (List.mem_of_getElem? (i := 209) rfl)) rfl, tg (tb_1 (List.mem_of_getElem? (i := 13) rfl)) rfl, ⟨by decide, by decide⟩, by decide +kernel, plainFor_of_name (by decide +kernel)⟩
theorem mi_X12_formOf : Cond.instanceMethod yX12_formOf ∈ gtbl := tg (tb_9 (List.mem_of_getElem? (i := 208) rfl)) rfl
theorem msel_X12_formOf : Cond.selects yX12_formOf.cls yX12_formOf yX12_formOf ∈ gtbl := tg (List.mem_append_left _ (List.mem_map.mpr ⟨(⟨"SpanValuesModel", "formOf", "(II)I"⟩, _), (List.mem_append_right _ (List.mem_append_right _ (List.mem_append_right _ (List.mem_append_right _ (List.mem_append_right _ (List.mem_append_right _ (List.mem_append_right _ (List.mem_append_right _ (List.mem_append_right _ (List.mem_append_left _ (List.mem_of_getElem? (i := 2) rfl)))))))))) : _ ∈ lw_privs), rfl⟩)) rfl
theorem my_X12_goesOn : MYk yX12_goesOn cX12_goesOn 5 (some .boolean) 3 := ⟨tg (tb_8 (List.mem_of_getElem? (i := 229) rfl)) rfl, tg (tb_1 (List.mem_of_getElem? (i := 13) rfl)) rfl, ⟨by decide, by decide⟩, by decide +kernel, plainFor_of_name (by decide +kernel)⟩
theorem mi_X12_goesOn : Cond.instanceMethod yX12_goesOn ∈ gtbl := tg (tb_8 (List.mem_of_getElem? (i := 228) rfl)) rfl
theorem msel_X12_goesOn : Cond.selects yX12_goesOn.cls yX12_goesOn yX12_goesOn ∈ gtbl := tg (List.mem_append_left _ (List.mem_map.mpr ⟨(⟨"SpanValuesModel", "goesOn", "(III)Z"⟩, _), (List.mem_append_right _ (List.mem_append_right _ (List.mem_append_right _ (List.mem_append_right _ (List.mem_append_right _ (List.mem_append_right _ (List.mem_append_left _ (List.mem_of_getElem? (i := 12) rfl))))))) : _ ∈ lw_privs), rfl⟩)) rfl
theorem my_X12_good : MYk yX12_good cX12_good 1 (some .boolean) 0 := ⟨tg (tb_8 (List.mem_of_getElem? (i := 59) rfl)) rfl, tg (tb_1 (List.mem_of_getElem? (i := 13) rfl)) rfl, ⟨by decide, by decide⟩, by decide +kernel, plainFor_of_name (by decide +kernel)⟩
theorem mi_X12_good : Cond.instanceMethod yX12_good ∈ gtbl := tg (tb_8 (List.mem_of_getElem? (i := 58) rfl)) rfl
theorem msel_X12_good : Cond.selects yX12_good.cls yX12_good yX12_good ∈ gtbl := tg (List.mem_append_left _ (List.mem_map.mpr ⟨(⟨"SpanValuesModel", "good", "()Z"⟩, _), (List.mem_append_right _ (List.mem_append_right _ (List.mem_append_right _ (List.mem_append_right _ (List.mem_append_right _ (List.mem_append_left _ (List.mem_of_getElem? (i := 0) rfl)))))) : _ ∈ lw_privs), rfl⟩)) rfl
theorem my_X12_grammar : MYk yX12_grammar cX12_grammar 3 (some .int) 0 := ⟨tg (tb_8 (List.mem_of_getElem? (i := 40) rfl)) rfl, tg (tb_1 (List.mem_of_getElem? (i := 13) rfl)) rfl, ⟨by decide, by decide⟩, by decide +kernel, plainFor_of_name (by decide +kernel)⟩
theorem mi_X12_grammar : Cond.instanceMethod yX12_grammar ∈ gtbl := tg (tb_8 (List.mem_of_getElem? (i := 38) rfl)) rfl
theorem msel_X12_grammar : Cond.selects yX12_grammar.cls yX12_grammar yX12_grammar ∈ gtbl := tg (tb_8 (List.mem_of_getElem? (i := 39) rfl)) rfl
theorem my_X12_has : MYk yX12_has cX12_has 4 (some .boolean) 3 := ⟨tg (tb_8 (List.mem_of_getElem? (i := 200) rfl)) rfl, tg (tb_1 (List.mem_of_getElem? (i := 13) rfl)) rfl, ⟨by decide, by decide⟩, by decide +kernel, plainFor_of_name (by decide +kernel)⟩
theorem mi_X12_has : Cond.instanceMethod yX12_has ∈ gtbl := tg (tb_8 (List.mem_of_getElem? (i := 199) rfl)) rfl
theorem msel_X12_has : Cond.selects yX12_has.cls yX12_has yX12_has ∈ gtbl := tg (List.mem_append_left _ (List.mem_map.mpr ⟨(⟨"SpanValuesModel", "has", "(III)Z"⟩, _), (List.mem_append_right _ (List.mem_append_right _ (List.mem_append_right _ (List.mem_append_right _ (List.mem_append_right _ (List.mem_append_right _ (List.mem_append_left _ (List.mem_of_getElem? (i := 7) rfl))))))) : _ ∈ lw_privs), rfl⟩)) rfl
theorem my_X12_heads : MYk yX12_heads cX12_heads 3 (some .int) 0 := ⟨tg (tb_10 (List.mem_of_getElem? (i := 62) rfl)) rfl, tg (tb_1 (List.mem_of_getElem? (i := 13) rfl)) rfl, ⟨by decide, by decide⟩, by decide +kernel, plainFor_of_name (by decide +kernel)⟩
theorem mi_X12_heads : Cond.instanceMethod yX12_heads ∈ gtbl := tg (tb_10 (List.mem_of_getElem? (i := 60) rfl)) rfl
theorem msel_X12_heads : Cond.selects yX12_heads.cls yX12_heads yX12_heads ∈ gtbl := tg (tb_10 (List.mem_of_getElem? (i := 61) rfl)) rfl
theorem my_X12_holds : MYk yX12_holds cX12_holds 7 (some .boolean) 2 := ⟨tg (tb_9 (List.mem_of_getElem? (i := 114) rfl)) rfl, tg (tb_1 (List.mem_of_getElem? (i := 13) rfl)) rfl, ⟨by decide, by decide⟩, by decide +kernel, plainFor_of_name (by decide +kernel)⟩
theorem mi_X12_holds : Cond.instanceMethod yX12_holds ∈ gtbl := tg (tb_9 (List.mem_of_getElem? (i := 113) rfl)) rfl
theorem msel_X12_holds : Cond.selects yX12_holds.cls yX12_holds yX12_holds ∈ gtbl := tg (List.mem_append_left _ (List.mem_map.mpr ⟨(⟨"SpanValuesModel", "holds", "(II)Z"⟩, _), (List.mem_append_right _ (List.mem_append_right _ (List.mem_append_right _ (List.mem_append_right _ (List.mem_append_right _ (List.mem_append_right _ (List.mem_append_right _ (List.mem_append_right _ (List.mem_append_left _ (List.mem_of_getElem? (i := 0) rfl))))))))) : _ ∈ lw_privs), rfl⟩)) rfl
theorem my_X12_in : MYk yX12_in cX12_in 6 (some .boolean) 3 := ⟨tg (tb_8 (List.mem_of_getElem? (i := 36) rfl)) rfl, tg (tb_1 (List.mem_of_getElem? (i := 13) rfl)) rfl, ⟨by decide, by decide⟩, by decide +kernel, plainFor_of_name (by decide +kernel)⟩
theorem ms_X12_in : Cond.static yX12_in ∈ gtbl := tg (tb_8 (List.mem_of_getElem? (i := 35) rfl)) rfl
theorem my_X12_is : MYk yX12_is cX12_is 4 (some .boolean) 1 := ⟨tg (tb_8 (List.mem_of_getElem? (i := 64) rfl)) rfl, tg (tb_1 (List.mem_of_getElem? (i := 13) rfl)) rfl, ⟨by decide, by decide⟩, by decide +kernel, plainFor_of_name (by decide +kernel)⟩
theorem mi_X12_is : Cond.instanceMethod yX12_is ∈ gtbl := tg (tb_8 (List.mem_of_getElem? (i := 63) rfl)) rfl
theorem msel_X12_is : Cond.selects yX12_is.cls yX12_is yX12_is ∈ gtbl := tg (List.mem_append_left _ (List.mem_map.mpr ⟨(⟨"SpanValuesModel", "is", "(Ljava/lang/String;)Z"⟩, _), (List.mem_append_right _ (List.mem_append_right _ (List.mem_append_right _ (List.mem_append_right _ (List.mem_append_right _ (List.mem_append_left _ (List.mem_of_getElem? (i := 1) rfl)))))) : _ ∈ lw_privs), rfl⟩)) rfl
theorem my_X12_isAhead : MYk yX12_isAhead cX12_isAhead 3 (some .boolean) 2 := ⟨tg (tb_9 (List.mem_of_getElem? (i := 205) rfl)) rfl, tg (tb_1 (List.mem_of_getElem? (i := 13) rfl)) rfl, ⟨by decide, by decide⟩, by decide +kernel, plainFor_of_name (by decide +kernel)⟩
theorem mi_X12_isAhead : Cond.instanceMethod yX12_isAhead ∈ gtbl := tg (tb_9 (List.mem_of_getElem? (i := 204) rfl)) rfl
theorem msel_X12_isAhead : Cond.selects yX12_isAhead.cls yX12_isAhead yX12_isAhead ∈ gtbl := tg (List.mem_append_left _ (List.mem_map.mpr ⟨(⟨"SpanValuesModel", "isAhead", "(II)Z"⟩, _), (List.mem_append_right _ (List.mem_append_right _ (List.mem_append_right _ (List.mem_append_right _ (List.mem_append_right _ (List.mem_append_right _ (List.mem_append_right _ (List.mem_append_right _ (List.mem_append_right _ (List.mem_append_left _ (List.mem_of_getElem? (i := 1) rfl)))))))))) : _ ∈ lw_privs), rfl⟩)) rfl
theorem my_X12_isAt : MYk yX12_isAt cX12_isAt 7 (some .boolean) 6 := ⟨tg (tb_9 (List.mem_of_getElem? (i := 135) rfl)) rfl, tg (tb_1 (List.mem_of_getElem? (i := 13) rfl)) rfl, ⟨by decide, by decide⟩, by decide +kernel, plainFor_of_name (by decide +kernel)⟩
theorem mi_X12_isAt : Cond.instanceMethod yX12_isAt ∈ gtbl := tg (tb_9 (List.mem_of_getElem? (i := 134) rfl)) rfl
theorem msel_X12_isAt : Cond.selects yX12_isAt.cls yX12_isAt yX12_isAt ∈ gtbl := tg (List.mem_append_left _ (List.mem_map.mpr ⟨(⟨"SpanValuesModel", "isAt", "(IIIIII)Z"⟩, _), (List.mem_append_right _ (List.mem_append_right _ (List.mem_append_right _ (List.mem_append_right _ (List.mem_append_right _ (List.mem_append_right _ (List.mem_append_right _ (List.mem_append_right _ (List.mem_append_left _ (List.mem_of_getElem? (i := 4) rfl))))))))) : _ ∈ lw_privs), rfl⟩)) rfl
theorem my_X12_isElement : MYk yX12_isElement cX12_isElement 2 (some .boolean) 1 := ⟨tg (tb_8 (List.mem_of_getElem? (i := 129) rfl)) rfl, tg (tb_1 (List.mem_of_getElem? (i := 13) rfl)) rfl, ⟨by decide, by decide⟩, by decide +kernel, plainFor_of_name (by decide +kernel)⟩
theorem mi_X12_isElement : Cond.instanceMethod yX12_isElement ∈ gtbl := tg (tb_8 (List.mem_of_getElem? (i := 128) rfl)) rfl
theorem msel_X12_isElement : Cond.selects yX12_isElement.cls yX12_isElement yX12_isElement ∈ gtbl := tg (List.mem_append_left _ (List.mem_map.mpr ⟨(⟨"SpanValuesModel", "isElement", "(I)Z"⟩, _), (List.mem_append_right _ (List.mem_append_right _ (List.mem_append_right _ (List.mem_append_right _ (List.mem_append_right _ (List.mem_append_left _ (List.mem_of_getElem? (i := 11) rfl)))))) : _ ∈ lw_privs), rfl⟩)) rfl
theorem my_X12_isEndlessPart : MYk yX12_isEndlessPart cX12_isEndlessPart 4 (some .boolean) 3 := ⟨tg (tb_8 (List.mem_of_getElem? (i := 233) rfl)) rfl, tg (tb_1 (List.mem_of_getElem? (i := 13) rfl)) rfl, ⟨by decide, by decide⟩, by decide +kernel, plainFor_of_name (by decide +kernel)⟩
theorem mi_X12_isEndlessPart : Cond.instanceMethod yX12_isEndlessPart ∈ gtbl := tg (tb_8 (List.mem_of_getElem? (i := 232) rfl)) rfl
theorem msel_X12_isEndlessPart : Cond.selects yX12_isEndlessPart.cls yX12_isEndlessPart yX12_isEndlessPart ∈ gtbl := tg (List.mem_append_left _ (List.mem_map.mpr ⟨(⟨"SpanValuesModel", "isEndlessPart", "(III)Z"⟩, _), (List.mem_append_right _ (List.mem_append_right _ (List.mem_append_right _ (List.mem_append_right _ (List.mem_append_right _ (List.mem_append_right _ (List.mem_append_left _ (List.mem_of_getElem? (i := 13) rfl))))))) : _ ∈ lw_privs), rfl⟩)) rfl
theorem my_X12_isIn : MYk yX12_isIn cX12_isIn 2 (some .boolean) 1 := ⟨tg (tb_8 (List.mem_of_getElem? (i := 177) rfl)) rfl, tg (tb_1 (List.mem_of_getElem? (i := 13) rfl)) rfl, ⟨by decide, by decide⟩, by decide +kernel, plainFor_of_name (by decide +kernel)⟩
theorem mi_X12_isIn : Cond.instanceMethod yX12_isIn ∈ gtbl := tg (tb_8 (List.mem_of_getElem? (i := 176) rfl)) rfl
theorem msel_X12_isIn : Cond.selects yX12_isIn.cls yX12_isIn yX12_isIn ∈ gtbl := tg (List.mem_append_left _ (List.mem_map.mpr ⟨(⟨"SpanValuesModel", "isIn", "(I)Z"⟩, _), (List.mem_append_right _ (List.mem_append_right _ (List.mem_append_right _ (List.mem_append_right _ (List.mem_append_right _ (List.mem_append_right _ (List.mem_append_left _ (List.mem_of_getElem? (i := 2) rfl))))))) : _ ∈ lw_privs), rfl⟩)) rfl
theorem my_X12_isItem : MYk yX12_isItem cX12_isItem 4 (some .boolean) 3 := ⟨tg (tb_8 (List.mem_of_getElem? (i := 159) rfl)) rfl, tg (tb_1 (List.mem_of_getElem? (i := 13) rfl)) rfl, ⟨by decide, by decide⟩, by decide +kernel, plainFor_of_name (by decide +kernel)⟩
theorem mi_X12_isItem : Cond.instanceMethod yX12_isItem ∈ gtbl := tg (tb_8 (List.mem_of_getElem? (i := 158) rfl)) rfl
theorem msel_X12_isItem : Cond.selects yX12_isItem.cls yX12_isItem yX12_isItem ∈ gtbl := tg (List.mem_append_left _ (List.mem_map.mpr ⟨(⟨"SpanValuesModel", "isItem", "(III)Z"⟩, _), (List.mem_append_right _ (List.mem_append_right _ (List.mem_append_right _ (List.mem_append_right _ (List.mem_append_right _ (List.mem_append_left _ (List.mem_of_getElem? (i := 14) rfl)))))) : _ ∈ lw_privs), rfl⟩)) rfl
theorem my_X12_isLetterAt : MYk yX12_isLetterAt cX12_isLetterAt 4 (some .boolean) 3 := ⟨tg (tb_9 (List.mem_of_getElem? (i := 98) rfl)) rfl, tg (tb_1 (List.mem_of_getElem? (i := 13) rfl)) rfl, ⟨by decide, by decide⟩, by decide +kernel, plainFor_of_name (by decide +kernel)⟩
theorem mi_X12_isLetterAt : Cond.instanceMethod yX12_isLetterAt ∈ gtbl := tg (tb_9 (List.mem_of_getElem? (i := 97) rfl)) rfl
theorem msel_X12_isLetterAt : Cond.selects yX12_isLetterAt.cls yX12_isLetterAt yX12_isLetterAt ∈ gtbl := tg (List.mem_append_left _ (List.mem_map.mpr ⟨(⟨"SpanValuesModel", "isLetterAt", "(III)Z"⟩, _), (List.mem_append_right _ (List.mem_append_right _ (List.mem_append_right _ (List.mem_append_right _ (List.mem_append_right _ (List.mem_append_right _ (List.mem_append_right _ (List.mem_append_left _ (List.mem_of_getElem? (i := 14) rfl)))))))) : _ ∈ lw_privs), rfl⟩)) rfl
theorem my_X12_isOf : MYk yX12_isOf cX12_isOf 2 (some .boolean) 2 := ⟨tg (tb_10 (List.mem_of_getElem? (i := 85) rfl)) rfl, tg (tb_1 (List.mem_of_getElem? (i := 13) rfl)) rfl, ⟨by decide, by decide⟩, by decide +kernel, plainFor_of_name (by decide +kernel)⟩
theorem ms_X12_isOf : Cond.static yX12_isOf ∈ gtbl := tg (tb_10 (List.mem_of_getElem? (i := 84) rfl)) rfl
theorem my_X12_isPart : MYk yX12_isPart cX12_isPart 1 (some .boolean) 0 := ⟨tg (tb_8 (List.mem_of_getElem? (i := 103) rfl)) rfl, tg (tb_1 (List.mem_of_getElem? (i := 13) rfl)) rfl, ⟨by decide, by decide⟩, by decide +kernel, plainFor_of_name (by decide +kernel)⟩
theorem mi_X12_isPart : Cond.instanceMethod yX12_isPart ∈ gtbl := tg (tb_8 (List.mem_of_getElem? (i := 102) rfl)) rfl
theorem msel_X12_isPart : Cond.selects yX12_isPart.cls yX12_isPart yX12_isPart ∈ gtbl := tg (List.mem_append_left _ (List.mem_map.mpr ⟨(⟨"SpanValuesModel", "isPart", "()Z"⟩, _), (List.mem_append_right _ (List.mem_append_right _ (List.mem_append_right _ (List.mem_append_right _ (List.mem_append_right _ (List.mem_append_left _ (List.mem_of_getElem? (i := 9) rfl)))))) : _ ∈ lw_privs), rfl⟩)) rfl
theorem my_X12_isPlace : MYk yX12_isPlace cX12_isPlace 1 (some .boolean) 1 := ⟨tg (tb_9 (List.mem_of_getElem? (i := 161) rfl)) rfl, tg (tb_1 (List.mem_of_getElem? (i := 13) rfl)) rfl, ⟨by decide, by decide⟩, by decide +kernel, plainFor_of_name (by decide +kernel)⟩
theorem ms_X12_isPlace : Cond.static yX12_isPlace ∈ gtbl := tg (tb_9 (List.mem_of_getElem? (i := 160) rfl)) rfl
theorem my_X12_isRule : MYk yX12_isRule cX12_isRule 2 (some .boolean) 1 := ⟨tg (tb_8 (List.mem_of_getElem? (i := 121) rfl)) rfl, tg (tb_1 (List.mem_of_getElem? (i := 13) rfl)) rfl, ⟨by decide, by decide⟩, by decide +kernel, plainFor_of_name (by decide +kernel)⟩
theorem mi_X12_isRule : Cond.instanceMethod yX12_isRule ∈ gtbl := tg (tb_8 (List.mem_of_getElem? (i := 120) rfl)) rfl
theorem msel_X12_isRule : Cond.selects yX12_isRule.cls yX12_isRule yX12_isRule ∈ gtbl := tg (List.mem_append_left _ (List.mem_map.mpr ⟨(⟨"SpanValuesModel", "isRule", "(I)Z"⟩, _), (List.mem_append_right _ (List.mem_append_right _ (List.mem_append_right _ (List.mem_append_right _ (List.mem_append_right _ (List.mem_append_left _ (List.mem_of_getElem? (i := 10) rfl)))))) : _ ∈ lw_privs), rfl⟩)) rfl
theorem my_X12_isSingle : MYk yX12_isSingle cX12_isSingle 2 (some .boolean) 1 := ⟨tg (tb_8 (List.mem_of_getElem? (i := 225) rfl)) rfl, tg (tb_1 (List.mem_of_getElem? (i := 13) rfl)) rfl, ⟨by decide, by decide⟩, by decide +kernel, plainFor_of_name (by decide +kernel)⟩
theorem mi_X12_isSingle : Cond.instanceMethod yX12_isSingle ∈ gtbl := tg (tb_8 (List.mem_of_getElem? (i := 224) rfl)) rfl
theorem msel_X12_isSingle : Cond.selects yX12_isSingle.cls yX12_isSingle yX12_isSingle ∈ gtbl := tg (List.mem_append_left _ (List.mem_map.mpr ⟨(⟨"SpanValuesModel", "isSingle", "(I)Z"⟩, _), (List.mem_append_right _ (List.mem_append_right _ (List.mem_append_right _ (List.mem_append_right _ (List.mem_append_right _ (List.mem_append_right _ (List.mem_append_left _ (List.mem_of_getElem? (i := 11) rfl))))))) : _ ∈ lw_privs), rfl⟩)) rfl
theorem my_X12_item : MYk yX12_item cX12_item 3 (some .int) 3 := ⟨tg (tb_8 (List.mem_of_getElem? (i := 188) rfl)) rfl, tg (tb_1 (List.mem_of_getElem? (i := 13) rfl)) rfl, ⟨by decide, by decide⟩, by decide +kernel, plainFor_of_name (by decide +kernel)⟩
theorem ms_X12_item : Cond.static yX12_item ∈ gtbl := tg (tb_8 (List.mem_of_getElem? (i := 187) rfl)) rfl
theorem my_X12_itemsMany : MYk yX12_itemsMany cX12_itemsMany 5 (some .int) 0 := ⟨tg (tb_9 (List.mem_of_getElem? (i := 148) rfl)) rfl, tg (tb_1 (List.mem_of_getElem? (i := 13) rfl)) rfl, ⟨by decide, by decide⟩, by decide +kernel, plainFor_of_name (by decide +kernel)⟩
theorem mi_X12_itemsMany : Cond.instanceMethod yX12_itemsMany ∈ gtbl := tg (tb_9 (List.mem_of_getElem? (i := 147) rfl)) rfl
theorem msel_X12_itemsMany : Cond.selects yX12_itemsMany.cls yX12_itemsMany yX12_itemsMany ∈ gtbl := tg (List.mem_append_left _ (List.mem_map.mpr ⟨(⟨"SpanValuesModel", "itemsMany", "()I"⟩, _), (List.mem_append_right _ (List.mem_append_right _ (List.mem_append_right _ (List.mem_append_right _ (List.mem_append_right _ (List.mem_append_right _ (List.mem_append_right _ (List.mem_append_right _ (List.mem_append_left _ (List.mem_of_getElem? (i := 6) rfl))))))))) : _ ∈ lw_privs), rfl⟩)) rfl
theorem my_X12_keeps : MYk yX12_keeps cX12_keeps 4 (some .boolean) 3 := ⟨tg (tb_9 (List.mem_of_getElem? (i := 118) rfl)) rfl, tg (tb_1 (List.mem_of_getElem? (i := 13) rfl)) rfl, ⟨by decide, by decide⟩, by decide +kernel, plainFor_of_name (by decide +kernel)⟩
theorem mi_X12_keeps : Cond.instanceMethod yX12_keeps ∈ gtbl := tg (tb_9 (List.mem_of_getElem? (i := 117) rfl)) rfl
theorem msel_X12_keeps : Cond.selects yX12_keeps.cls yX12_keeps yX12_keeps ∈ gtbl := tg (List.mem_append_left _ (List.mem_map.mpr ⟨(⟨"SpanValuesModel", "keeps", "(III)Z"⟩, _), (List.mem_append_right _ (List.mem_append_right _ (List.mem_append_right _ (List.mem_append_right _ (List.mem_append_right _ (List.mem_append_right _ (List.mem_append_right _ (List.mem_append_right _ (List.mem_append_left _ (List.mem_of_getElem? (i := 1) rfl))))))))) : _ ∈ lw_privs), rfl⟩)) rfl
theorem my_X12_keepsThree : MYk yX12_keepsThree cX12_keepsThree 5 (some .boolean) 4 := ⟨tg (tb_9 (List.mem_of_getElem? (i := 122) rfl)) rfl, tg (tb_1 (List.mem_of_getElem? (i := 13) rfl)) rfl, ⟨by decide, by decide⟩, by decide +kernel, plainFor_of_name (by decide +kernel)⟩
theorem mi_X12_keepsThree : Cond.instanceMethod yX12_keepsThree ∈ gtbl := tg (tb_9 (List.mem_of_getElem? (i := 121) rfl)) rfl
theorem msel_X12_keepsThree : Cond.selects yX12_keepsThree.cls yX12_keepsThree yX12_keepsThree ∈ gtbl := tg (List.mem_append_left _ (List.mem_map.mpr ⟨(⟨"SpanValuesModel", "keepsThree", "(IIII)Z"⟩, _), (List.mem_append_right _ (List.mem_append_right _ (List.mem_append_right _ (List.mem_append_right _ (List.mem_append_right _ (List.mem_append_right _ (List.mem_append_right _ (List.mem_append_right _ (List.mem_append_left _ (List.mem_of_getElem? (i := 2) rfl))))))))) : _ ∈ lw_privs), rfl⟩)) rfl
theorem my_X12_laws : MYk yX12_laws cX12_laws 5 (some .int) 0 := ⟨tg (tb_9 (List.mem_of_getElem? (i := 110) rfl)) rfl, tg (tb_1 (List.mem_of_getElem? (i := 13) rfl)) rfl, ⟨by decide, by decide⟩, by decide +kernel, plainFor_of_name (by decide +kernel)⟩
theorem mi_X12_laws : Cond.instanceMethod yX12_laws ∈ gtbl := tg (tb_9 (List.mem_of_getElem? (i := 108) rfl)) rfl
theorem msel_X12_laws : Cond.selects yX12_laws.cls yX12_laws yX12_laws ∈ gtbl := tg (tb_9 (List.mem_of_getElem? (i := 109) rfl)) rfl
theorem my_X12_laysBest : MYk yX12_laysBest cX12_laysBest 3 none 0 := ⟨tg (tb_9 (List.mem_of_getElem? (i := 165) rfl)) rfl, tg (tb_1 (List.mem_of_getElem? (i := 13) rfl)) rfl, ⟨by decide, by decide⟩, by decide +kernel, plainFor_of_name (by decide +kernel)⟩
theorem mi_X12_laysBest : Cond.instanceMethod yX12_laysBest ∈ gtbl := tg (tb_9 (List.mem_of_getElem? (i := 164) rfl)) rfl
theorem msel_X12_laysBest : Cond.selects yX12_laysBest.cls yX12_laysBest yX12_laysBest ∈ gtbl := tg (List.mem_append_left _ (List.mem_map.mpr ⟨(⟨"SpanValuesModel", "laysBest", "()V"⟩, _), (List.mem_append_right _ (List.mem_append_right _ (List.mem_append_right _ (List.mem_append_right _ (List.mem_append_right _ (List.mem_append_right _ (List.mem_append_right _ (List.mem_append_right _ (List.mem_append_left _ (List.mem_of_getElem? (i := 7) rfl))))))))) : _ ∈ lw_privs), rfl⟩)) rfl
theorem my_X12_laysBestSpan : MYk yX12_laysBestSpan cX12_laysBestSpan 8 none 2 := ⟨tg (tb_9 (List.mem_of_getElem? (i := 169) rfl)) rfl, tg (tb_1 (List.mem_of_getElem? (i := 13) rfl)) rfl, ⟨by decide, by decide⟩, by decide +kernel, plainFor_of_name (by decide +kernel)⟩
theorem mi_X12_laysBestSpan : Cond.instanceMethod yX12_laysBestSpan ∈ gtbl := tg (tb_9 (List.mem_of_getElem? (i := 168) rfl)) rfl
theorem msel_X12_laysBestSpan : Cond.selects yX12_laysBestSpan.cls yX12_laysBestSpan yX12_laysBestSpan ∈ gtbl := tg (List.mem_append_left _ (List.mem_map.mpr ⟨(⟨"SpanValuesModel", "laysBestSpan", "(II)V"⟩, _), (List.mem_append_right _ (List.mem_append_right _ (List.mem_append_right _ (List.mem_append_right _ (List.mem_append_right _ (List.mem_append_right _ (List.mem_append_right _ (List.mem_append_right _ (List.mem_append_left _ (List.mem_of_getElem? (i := 8) rfl))))))))) : _ ∈ lw_privs), rfl⟩)) rfl
theorem my_X12_laysCheap : MYk yX12_laysCheap cX12_laysCheap 9 none 3 := ⟨tg (tb_10 (List.mem_of_getElem? (i := 42) rfl)) rfl, tg (tb_1 (List.mem_of_getElem? (i := 13) rfl)) rfl, ⟨by decide, by decide⟩, by decide +kernel, plainFor_of_name (by decide +kernel)⟩
theorem mi_X12_laysCheap : Cond.instanceMethod yX12_laysCheap ∈ gtbl := tg (tb_10 (List.mem_of_getElem? (i := 41) rfl)) rfl
theorem msel_X12_laysCheap : Cond.selects yX12_laysCheap.cls yX12_laysCheap yX12_laysCheap ∈ gtbl := tg (List.mem_append_left _ (List.mem_map.mpr ⟨(⟨"SpanValuesModel", "laysCheap", "(III)V"⟩, _), (List.mem_append_right _ (List.mem_append_right _ (List.mem_append_right _ (List.mem_append_right _ (List.mem_append_right _ (List.mem_append_right _ (List.mem_append_right _ (List.mem_append_right _ (List.mem_append_right _ (List.mem_append_left _ (List.mem_of_getElem? (i := 13) rfl)))))))))) : _ ∈ lw_privs), rfl⟩)) rfl
theorem my_X12_laysDear : MYk yX12_laysDear cX12_laysDear 5 none 2 := ⟨tg (tb_9 (List.mem_of_getElem? (i := 22) rfl)) rfl, tg (tb_1 (List.mem_of_getElem? (i := 13) rfl)) rfl, ⟨by decide, by decide⟩, by decide +kernel, plainFor_of_name (by decide +kernel)⟩
theorem mi_X12_laysDear : Cond.instanceMethod yX12_laysDear ∈ gtbl := tg (tb_9 (List.mem_of_getElem? (i := 21) rfl)) rfl
theorem msel_X12_laysDear : Cond.selects yX12_laysDear.cls yX12_laysDear yX12_laysDear ∈ gtbl := tg (List.mem_append_left _ (List.mem_map.mpr ⟨(⟨"SpanValuesModel", "laysDear", "(II)V"⟩, _), (List.mem_append_right _ (List.mem_append_right _ (List.mem_append_right _ (List.mem_append_right _ (List.mem_append_right _ (List.mem_append_right _ (List.mem_append_right _ (List.mem_append_left _ (List.mem_of_getElem? (i := 0) rfl)))))))) : _ ∈ lw_privs), rfl⟩)) rfl
theorem my_X12_laysEndless : MYk yX12_laysEndless cX12_laysEndless 3 none 0 := ⟨tg (tb_8 (List.mem_of_getElem? (i := 213) rfl)) rfl, tg (tb_1 (List.mem_of_getElem? (i := 13) rfl)) rfl, ⟨by decide, by decide⟩, by decide +kernel, plainFor_of_name (by decide +kernel)⟩
theorem mi_X12_laysEndless : Cond.instanceMethod yX12_laysEndless ∈ gtbl := tg (tb_8 (List.mem_of_getElem? (i := 212) rfl)) rfl
theorem msel_X12_laysEndless : Cond.selects yX12_laysEndless.cls yX12_laysEndless yX12_laysEndless ∈ gtbl := tg (List.mem_append_left _ (List.mem_map.mpr ⟨(⟨"SpanValuesModel", "laysEndless", "()V"⟩, _), (List.mem_append_right _ (List.mem_append_right _ (List.mem_append_right _ (List.mem_append_right _ (List.mem_append_right _ (List.mem_append_right _ (List.mem_append_left _ (List.mem_of_getElem? (i := 8) rfl))))))) : _ ∈ lw_privs), rfl⟩)) rfl
theorem my_X12_laysEndlessSpan : MYk yX12_laysEndlessSpan cX12_laysEndlessSpan 6 none 2 := ⟨tg (tb_8 (List.mem_of_getElem? (i := 217) rfl)) rfl, tg (tb_1 (List.mem_of_getElem? (i := 13) rfl)) rfl, ⟨by decide, by decide⟩, by decide +kernel, plainFor_of_name (by decide +kernel)⟩
theorem mi_X12_laysEndlessSpan : Cond.instanceMethod yX12_laysEndlessSpan ∈ gtbl := tg (tb_8 (List.mem_of_getElem? (i := 216) rfl)) rfl
theorem msel_X12_laysEndlessSpan : Cond.selects yX12_laysEndlessSpan.cls yX12_laysEndlessSpan yX12_laysEndlessSpan ∈ gtbl := tg (List.mem_append_left _ (List.mem_map.mpr ⟨(⟨"SpanValuesModel", "laysEndlessSpan", "(II)V"⟩, _), (List.mem_append_right _ (List.mem_append_right _ (List.mem_append_right _ (List.mem_append_right _ (List.mem_append_right _ (List.mem_append_right _ (List.mem_append_left _ (List.mem_of_getElem? (i := 9) rfl))))))) : _ ∈ lw_privs), rfl⟩)) rfl
theorem my_X12_laysLeast : MYk yX12_laysLeast cX12_laysLeast 5 none 1 := ⟨tg (tb_8 (List.mem_of_getElem? (i := 168) rfl)) rfl, tg (tb_1 (List.mem_of_getElem? (i := 13) rfl)) rfl, ⟨by decide, by decide⟩, by decide +kernel, plainFor_of_name (by decide +kernel)⟩
theorem mi_X12_laysLeast : Cond.instanceMethod yX12_laysLeast ∈ gtbl := tg (tb_8 (List.mem_of_getElem? (i := 167) rfl)) rfl
theorem msel_X12_laysLeast : Cond.selects yX12_laysLeast.cls yX12_laysLeast yX12_laysLeast ∈ gtbl := tg (List.mem_append_left _ (List.mem_map.mpr ⟨(⟨"SpanValuesModel", "laysLeast", "(J)V"⟩, _), (List.mem_append_right _ (List.mem_append_right _ (List.mem_append_right _ (List.mem_append_right _ (List.mem_append_right _ (List.mem_append_right _ (List.mem_append_left _ (List.mem_of_getElem? (i := 0) rfl))))))) : _ ∈ lw_privs), rfl⟩)) rfl
theorem my_X12_laysMends : MYk yX12_laysMends cX12_laysMends 5 (some .int) 0 := ⟨tg (tb_10 (List.mem_of_getElem? (i := 70) rfl)) rfl, tg (tb_1 (List.mem_of_getElem? (i := 13) rfl)) rfl, ⟨by decide, by decide⟩, by decide +kernel, plainFor_of_name (by decide +kernel)⟩
theorem mi_X12_laysMends : Cond.instanceMethod yX12_laysMends ∈ gtbl := tg (tb_10 (List.mem_of_getElem? (i := 69) rfl)) rfl
theorem msel_X12_laysMends : Cond.selects yX12_laysMends.cls yX12_laysMends yX12_laysMends ∈ gtbl := tg (List.mem_append_left _ (List.mem_map.mpr ⟨(⟨"SpanValuesModel", "laysMends", "()I"⟩, _), (List.mem_append_right _ (List.mem_append_right _ (List.mem_append_right _ (List.mem_append_right _ (List.mem_append_right _ (List.mem_append_right _ (List.mem_append_right _ (List.mem_append_right _ (List.mem_append_right _ (List.mem_append_right _ (List.mem_of_getElem? (i := 1) rfl)))))))))) : _ ∈ lw_privs), rfl⟩)) rfl
theorem my_X12_laysSpan : MYk yX12_laysSpan cX12_laysSpan 5 none 2 := ⟨tg (tb_8 (List.mem_of_getElem? (i := 173) rfl)) rfl, tg (tb_1 (List.mem_of_getElem? (i := 13) rfl)) rfl, ⟨by decide, by decide⟩, by decide +kernel, plainFor_of_name (by decide +kernel)⟩
theorem mi_X12_laysSpan : Cond.instanceMethod yX12_laysSpan ∈ gtbl := tg (tb_8 (List.mem_of_getElem? (i := 172) rfl)) rfl
theorem msel_X12_laysSpan : Cond.selects yX12_laysSpan.cls yX12_laysSpan yX12_laysSpan ∈ gtbl := tg (List.mem_append_left _ (List.mem_map.mpr ⟨(⟨"SpanValuesModel", "laysSpan", "(II)V"⟩, _), (List.mem_append_right _ (List.mem_append_right _ (List.mem_append_right _ (List.mem_append_right _ (List.mem_append_right _ (List.mem_append_right _ (List.mem_append_left _ (List.mem_of_getElem? (i := 1) rfl))))))) : _ ∈ lw_privs), rfl⟩)) rfl
theorem my_X12_laysSums : MYk yX12_laysSums cX12_laysSums 5 none 2 := ⟨tg (tb_9 (List.mem_of_getElem? (i := 51) rfl)) rfl, tg (tb_1 (List.mem_of_getElem? (i := 13) rfl)) rfl, ⟨by decide, by decide⟩, by decide +kernel, plainFor_of_name (by decide +kernel)⟩
theorem mi_X12_laysSums : Cond.instanceMethod yX12_laysSums ∈ gtbl := tg (tb_9 (List.mem_of_getElem? (i := 50) rfl)) rfl
theorem msel_X12_laysSums : Cond.selects yX12_laysSums.cls yX12_laysSums yX12_laysSums ∈ gtbl := tg (List.mem_append_left _ (List.mem_map.mpr ⟨(⟨"SpanValuesModel", "laysSums", "(II)V"⟩, _), (List.mem_append_right _ (List.mem_append_right _ (List.mem_append_right _ (List.mem_append_right _ (List.mem_append_right _ (List.mem_append_right _ (List.mem_append_right _ (List.mem_append_left _ (List.mem_of_getElem? (i := 5) rfl)))))))) : _ ∈ lw_privs), rfl⟩)) rfl
theorem my_X12_laysTwoBest : MYk yX12_laysTwoBest cX12_laysTwoBest 9 none 3 := ⟨tg (tb_9 (List.mem_of_getElem? (i := 173) rfl)) rfl, tg (tb_1 (List.mem_of_getElem? (i := 13) rfl)) rfl, ⟨by decide, by decide⟩, by decide +kernel, plainFor_of_name (by decide +kernel)⟩
theorem mi_X12_laysTwoBest : Cond.instanceMethod yX12_laysTwoBest ∈ gtbl := tg (tb_9 (List.mem_of_getElem? (i := 172) rfl)) rfl
theorem msel_X12_laysTwoBest : Cond.selects yX12_laysTwoBest.cls yX12_laysTwoBest yX12_laysTwoBest ∈ gtbl := tg (List.mem_append_left _ (List.mem_map.mpr ⟨(⟨"SpanValuesModel", "laysTwoBest", "(III)V"⟩, _), (List.mem_append_right _ (List.mem_append_right _ (List.mem_append_right _ (List.mem_append_right _ (List.mem_append_right _ (List.mem_append_right _ (List.mem_append_right _ (List.mem_append_right _ (List.mem_append_left _ (List.mem_of_getElem? (i := 9) rfl))))))))) : _ ∈ lw_privs), rfl⟩)) rfl
theorem my_X12_laysTwos : MYk yX12_laysTwos cX12_laysTwos 5 none 3 := ⟨tg (tb_8 (List.mem_of_getElem? (i := 181) rfl)) rfl, tg (tb_1 (List.mem_of_getElem? (i := 13) rfl)) rfl, ⟨by decide, by decide⟩, by decide +kernel, plainFor_of_name (by decide +kernel)⟩
theorem mi_X12_laysTwos : Cond.instanceMethod yX12_laysTwos ∈ gtbl := tg (tb_8 (List.mem_of_getElem? (i := 180) rfl)) rfl
theorem msel_X12_laysTwos : Cond.selects yX12_laysTwos.cls yX12_laysTwos yX12_laysTwos ∈ gtbl := tg (List.mem_append_left _ (List.mem_map.mpr ⟨(⟨"SpanValuesModel", "laysTwos", "(III)V"⟩, _), (List.mem_append_right _ (List.mem_append_right _ (List.mem_append_right _ (List.mem_append_right _ (List.mem_append_right _ (List.mem_append_right _ (List.mem_append_left _ (List.mem_of_getElem? (i := 3) rfl))))))) : _ ∈ lw_privs), rfl⟩)) rfl
theorem my_X12_least : MYk yX12_least cX12_least 4 (some .int) 3 := ⟨tg (tb_8 (List.mem_of_getElem? (i := 204) rfl)) rfl, tg (tb_1 (List.mem_of_getElem? (i := 13) rfl)) rfl, ⟨by decide, by decide⟩, by decide +kernel, plainFor_of_name (by decide +kernel)⟩
theorem mi_X12_least : Cond.instanceMethod yX12_least ∈ gtbl := tg (tb_8 (List.mem_of_getElem? (i := 202) rfl)) rfl
theorem msel_X12_least : Cond.selects yX12_least.cls yX12_least yX12_least ∈ gtbl := tg (tb_8 (List.mem_of_getElem? (i := 203) rfl)) rfl
theorem my_X12_leastOfAll : MYk yX12_leastOfAll cX12_leastOfAll 1 (some .int) 0 := ⟨tg (tb_10 (List.mem_of_getElem? (i := 58) rfl)) rfl, tg (tb_1 (List.mem_of_getElem? (i := 13) rfl)) rfl, ⟨by decide, by decide⟩, by decide +kernel, plainFor_of_name (by decide +kernel)⟩
theorem mi_X12_leastOfAll : Cond.instanceMethod yX12_leastOfAll ∈ gtbl := tg (tb_10 (List.mem_of_getElem? (i := 57) rfl)) rfl
theorem msel_X12_leastOfAll : Cond.selects yX12_leastOfAll.cls yX12_leastOfAll yX12_leastOfAll ∈ gtbl := tg (List.mem_append_left _ (List.mem_map.mpr ⟨(⟨"SpanValuesModel", "leastOfAll", "()I"⟩, _), (List.mem_append_right _ (List.mem_append_right _ (List.mem_append_right _ (List.mem_append_right _ (List.mem_append_right _ (List.mem_append_right _ (List.mem_append_right _ (List.mem_append_right _ (List.mem_append_right _ (List.mem_append_right _ (List.mem_of_getElem? (i := 0) rfl)))))))))) : _ ∈ lw_privs), rfl⟩)) rfl
theorem my_X12_leastPart : MYk yX12_leastPart cX12_leastPart 4 (some .int) 3 := ⟨tg (tb_8 (List.mem_of_getElem? (i := 192) rfl)) rfl, tg (tb_1 (List.mem_of_getElem? (i := 13) rfl)) rfl, ⟨by decide, by decide⟩, by decide +kernel, plainFor_of_name (by decide +kernel)⟩
theorem mi_X12_leastPart : Cond.instanceMethod yX12_leastPart ∈ gtbl := tg (tb_8 (List.mem_of_getElem? (i := 191) rfl)) rfl
theorem msel_X12_leastPart : Cond.selects yX12_leastPart.cls yX12_leastPart yX12_leastPart ∈ gtbl := tg (List.mem_append_left _ (List.mem_map.mpr ⟨(⟨"SpanValuesModel", "leastPart", "(III)I"⟩, _), (List.mem_append_right _ (List.mem_append_right _ (List.mem_append_right _ (List.mem_append_right _ (List.mem_append_right _ (List.mem_append_right _ (List.mem_append_left _ (List.mem_of_getElem? (i := 5) rfl))))))) : _ ∈ lw_privs), rfl⟩)) rfl
theorem my_X12_looks : MYk yX12_looks cX12_looks 2 none 0 := ⟨tg (tb_8 (List.mem_of_getElem? (i := 164) rfl)) rfl, tg (tb_1 (List.mem_of_getElem? (i := 13) rfl)) rfl, ⟨by decide, by decide⟩, by decide +kernel, plainFor_of_name (by decide +kernel)⟩
theorem mi_X12_looks : Cond.instanceMethod yX12_looks ∈ gtbl := tg (tb_8 (List.mem_of_getElem? (i := 163) rfl)) rfl
theorem msel_X12_looks : Cond.selects yX12_looks.cls yX12_looks yX12_looks ∈ gtbl := tg (List.mem_append_left _ (List.mem_map.mpr ⟨(⟨"SpanValuesModel", "looks", "()V"⟩, _), (List.mem_append_right _ (List.mem_append_right _ (List.mem_append_right _ (List.mem_append_right _ (List.mem_append_right _ (List.mem_append_left _ (List.mem_of_getElem? (i := 15) rfl)))))) : _ ∈ lw_privs), rfl⟩)) rfl
theorem my_X12_lowers : MYk yX12_lowers cX12_lowers 5 (some .boolean) 4 := ⟨tg (tb_8 (List.mem_of_getElem? (i := 196) rfl)) rfl, tg (tb_1 (List.mem_of_getElem? (i := 13) rfl)) rfl, ⟨by decide, by decide⟩, by decide +kernel, plainFor_of_name (by decide +kernel)⟩
theorem mi_X12_lowers : Cond.instanceMethod yX12_lowers ∈ gtbl := tg (tb_8 (List.mem_of_getElem? (i := 195) rfl)) rfl
theorem msel_X12_lowers : Cond.selects yX12_lowers.cls yX12_lowers yX12_lowers ∈ gtbl := tg (List.mem_append_left _ (List.mem_map.mpr ⟨(⟨"SpanValuesModel", "lowers", "(IIII)Z"⟩, _), (List.mem_append_right _ (List.mem_append_right _ (List.mem_append_right _ (List.mem_append_right _ (List.mem_append_right _ (List.mem_append_right _ (List.mem_append_left _ (List.mem_of_getElem? (i := 6) rfl))))))) : _ ∈ lw_privs), rfl⟩)) rfl
theorem my_X12_lowersDear : MYk yX12_lowersDear cX12_lowersDear 6 (some .boolean) 3 := ⟨tg (tb_9 (List.mem_of_getElem? (i := 26) rfl)) rfl, tg (tb_1 (List.mem_of_getElem? (i := 13) rfl)) rfl, ⟨by decide, by decide⟩, by decide +kernel, plainFor_of_name (by decide +kernel)⟩
theorem mi_X12_lowersDear : Cond.instanceMethod yX12_lowersDear ∈ gtbl := tg (tb_9 (List.mem_of_getElem? (i := 25) rfl)) rfl
theorem msel_X12_lowersDear : Cond.selects yX12_lowersDear.cls yX12_lowersDear yX12_lowersDear ∈ gtbl := tg (List.mem_append_left _ (List.mem_map.mpr ⟨(⟨"SpanValuesModel", "lowersDear", "(III)Z"⟩, _), (List.mem_append_right _ (List.mem_append_right _ (List.mem_append_right _ (List.mem_append_right _ (List.mem_append_right _ (List.mem_append_right _ (List.mem_append_right _ (List.mem_append_left _ (List.mem_of_getElem? (i := 1) rfl)))))))) : _ ∈ lw_privs), rfl⟩)) rfl
theorem my_X12_manyOf : MYk yX12_manyOf cX12_manyOf 4 (some .int) 3 := ⟨tg (tb_9 (List.mem_of_getElem? (i := 177) rfl)) rfl, tg (tb_1 (List.mem_of_getElem? (i := 13) rfl)) rfl, ⟨by decide, by decide⟩, by decide +kernel, plainFor_of_name (by decide +kernel)⟩
theorem mi_X12_manyOf : Cond.instanceMethod yX12_manyOf ∈ gtbl := tg (tb_9 (List.mem_of_getElem? (i := 176) rfl)) rfl
theorem msel_X12_manyOf : Cond.selects yX12_manyOf.cls yX12_manyOf yX12_manyOf ∈ gtbl := tg (List.mem_append_left _ (List.mem_map.mpr ⟨(⟨"SpanValuesModel", "manyOf", "(III)I"⟩, _), (List.mem_append_right _ (List.mem_append_right _ (List.mem_append_right _ (List.mem_append_right _ (List.mem_append_right _ (List.mem_append_right _ (List.mem_append_right _ (List.mem_append_right _ (List.mem_append_left _ (List.mem_of_getElem? (i := 10) rfl))))))))) : _ ∈ lw_privs), rfl⟩)) rfl
theorem my_X12_meets : MYk yX12_meets cX12_meets 7 none 3 := ⟨tg (tb_9 (List.mem_of_getElem? (i := 39) rfl)) rfl, tg (tb_1 (List.mem_of_getElem? (i := 13) rfl)) rfl, ⟨by decide, by decide⟩, by decide +kernel, plainFor_of_name (by decide +kernel)⟩
theorem mi_X12_meets : Cond.instanceMethod yX12_meets ∈ gtbl := tg (tb_9 (List.mem_of_getElem? (i := 38) rfl)) rfl
theorem msel_X12_meets : Cond.selects yX12_meets.cls yX12_meets yX12_meets ∈ gtbl := tg (List.mem_append_left _ (List.mem_map.mpr ⟨(⟨"SpanValuesModel", "meets", "(III)V"⟩, _), (List.mem_append_right _ (List.mem_append_right _ (List.mem_append_right _ (List.mem_append_right _ (List.mem_append_right _ (List.mem_append_right _ (List.mem_append_right _ (List.mem_append_left _ (List.mem_of_getElem? (i := 3) rfl)))))))) : _ ∈ lw_privs), rfl⟩)) rfl
theorem my_X12_meetsPart : MYk yX12_meetsPart cX12_meetsPart 4 none 3 := ⟨tg (tb_9 (List.mem_of_getElem? (i := 43) rfl)) rfl, tg (tb_1 (List.mem_of_getElem? (i := 13) rfl)) rfl, ⟨by decide, by decide⟩, by decide +kernel, plainFor_of_name (by decide +kernel)⟩
theorem mi_X12_meetsPart : Cond.instanceMethod yX12_meetsPart ∈ gtbl := tg (tb_9 (List.mem_of_getElem? (i := 42) rfl)) rfl
theorem msel_X12_meetsPart : Cond.selects yX12_meetsPart.cls yX12_meetsPart yX12_meetsPart ∈ gtbl := tg (List.mem_append_left _ (List.mem_map.mpr ⟨(⟨"SpanValuesModel", "meetsPart", "(III)V"⟩, _), (List.mem_append_right _ (List.mem_append_right _ (List.mem_append_right _ (List.mem_append_right _ (List.mem_append_right _ (List.mem_append_right _ (List.mem_append_right _ (List.mem_append_left _ (List.mem_of_getElem? (i := 4) rfl)))))))) : _ ∈ lw_privs), rfl⟩)) rfl
theorem my_X12_mend : MYk yX12_mend cX12_mend 2 (some .int) 1 := ⟨tg (tb_10 (List.mem_of_getElem? (i := 74) rfl)) rfl, tg (tb_1 (List.mem_of_getElem? (i := 13) rfl)) rfl, ⟨by decide, by decide⟩, by decide +kernel, plainFor_of_name (by decide +kernel)⟩
theorem mi_X12_mend : Cond.instanceMethod yX12_mend ∈ gtbl := tg (tb_10 (List.mem_of_getElem? (i := 72) rfl)) rfl
theorem msel_X12_mend : Cond.selects yX12_mend.cls yX12_mend yX12_mend ∈ gtbl := tg (tb_10 (List.mem_of_getElem? (i := 73) rfl)) rfl
theorem my_X12_mends : MYk yX12_mends cX12_mends 1 (some .int) 0 := ⟨tg (tb_10 (List.mem_of_getElem? (i := 66) rfl)) rfl, tg (tb_1 (List.mem_of_getElem? (i := 13) rfl)) rfl, ⟨by decide, by decide⟩, by decide +kernel, plainFor_of_name (by decide +kernel)⟩
theorem mi_X12_mends : Cond.instanceMethod yX12_mends ∈ gtbl := tg (tb_10 (List.mem_of_getElem? (i := 64) rfl)) rfl
theorem msel_X12_mends : Cond.selects yX12_mends.cls yX12_mends yX12_mends ∈ gtbl := tg (tb_10 (List.mem_of_getElem? (i := 65) rfl)) rfl
theorem my_X12_nodeOf : MYk yX12_nodeOf cX12_nodeOf 5 (some .int) 4 := ⟨tg (tb_9 (List.mem_of_getElem? (i := 181) rfl)) rfl, tg (tb_1 (List.mem_of_getElem? (i := 13) rfl)) rfl, ⟨by decide, by decide⟩, by decide +kernel, plainFor_of_name (by decide +kernel)⟩
theorem mi_X12_nodeOf : Cond.instanceMethod yX12_nodeOf ∈ gtbl := tg (tb_9 (List.mem_of_getElem? (i := 180) rfl)) rfl
theorem msel_X12_nodeOf : Cond.selects yX12_nodeOf.cls yX12_nodeOf yX12_nodeOf ∈ gtbl := tg (List.mem_append_left _ (List.mem_map.mpr ⟨(⟨"SpanValuesModel", "nodeOf", "(IIII)I"⟩, _), (List.mem_append_right _ (List.mem_append_right _ (List.mem_append_right _ (List.mem_append_right _ (List.mem_append_right _ (List.mem_append_right _ (List.mem_append_right _ (List.mem_append_right _ (List.mem_append_left _ (List.mem_of_getElem? (i := 11) rfl))))))))) : _ ∈ lw_privs), rfl⟩)) rfl
theorem my_X12_octet : MYk yX12_octet cX12_octet 2 (some .int) 1 := ⟨tg (tb_10 (List.mem_of_getElem? (i := 33) rfl)) rfl, tg (tb_1 (List.mem_of_getElem? (i := 13) rfl)) rfl, ⟨by decide, by decide⟩, by decide +kernel, plainFor_of_name (by decide +kernel)⟩
theorem mi_X12_octet : Cond.instanceMethod yX12_octet ∈ gtbl := tg (tb_10 (List.mem_of_getElem? (i := 31) rfl)) rfl
theorem msel_X12_octet : Cond.selects yX12_octet.cls yX12_octet yX12_octet ∈ gtbl := tg (tb_10 (List.mem_of_getElem? (i := 32) rfl)) rfl
theorem my_X12_order : MYk yX12_order cX12_order 4 (some .long) 4 := ⟨tg (tb_9 (List.mem_of_getElem? (i := 152) rfl)) rfl, tg (tb_1 (List.mem_of_getElem? (i := 13) rfl)) rfl, ⟨by decide, by decide⟩, by decide +kernel, plainFor_of_name (by decide +kernel)⟩
theorem ms_X12_order : Cond.static yX12_order ∈ gtbl := tg (tb_9 (List.mem_of_getElem? (i := 151) rfl)) rfl
theorem my_X12_plusGreat : MYk yX12_plusGreat cX12_plusGreat 4 (some .long) 2 := ⟨tg (tb_9 (List.mem_of_getElem? (i := 5) rfl)) rfl, tg (tb_1 (List.mem_of_getElem? (i := 13) rfl)) rfl, ⟨by decide, by decide⟩, by decide +kernel, plainFor_of_name (by decide +kernel)⟩
theorem ms_X12_plusGreat : Cond.static yX12_plusGreat ∈ gtbl := tg (tb_9 (List.mem_of_getElem? (i := 4) rfl)) rfl
theorem my_X12_power : MYk yX12_power cX12_power 6 (some .long) 2 := ⟨tg (tb_9 (List.mem_of_getElem? (i := 78) rfl)) rfl, tg (tb_1 (List.mem_of_getElem? (i := 13) rfl)) rfl, ⟨by decide, by decide⟩, by decide +kernel, plainFor_of_name (by decide +kernel)⟩
theorem ms_X12_power : Cond.static yX12_power ∈ gtbl := tg (tb_9 (List.mem_of_getElem? (i := 77) rfl)) rfl
theorem my_X12_prices : MYk yX12_prices cX12_prices 4 (some .int) 2 := ⟨tg (tb_8 (List.mem_of_getElem? (i := 146) rfl)) rfl, tg (tb_1 (List.mem_of_getElem? (i := 13) rfl)) rfl, ⟨by decide, by decide⟩, by decide +kernel, plainFor_of_name (by decide +kernel)⟩
theorem mi_X12_prices : Cond.instanceMethod yX12_prices ∈ gtbl := tg (tb_8 (List.mem_of_getElem? (i := 144) rfl)) rfl
theorem msel_X12_prices : Cond.selects yX12_prices.cls yX12_prices yX12_prices ∈ gtbl := tg (tb_8 (List.mem_of_getElem? (i := 145) rfl)) rfl
theorem my_X12_product2 : MYk yX12_product2 cX12_product2 3 (some .int) 2 := ⟨tg (tb_8 (List.mem_of_getElem? (i := 137) rfl)) rfl, tg (tb_1 (List.mem_of_getElem? (i := 13) rfl)) rfl, ⟨by decide, by decide⟩, by decide +kernel, plainFor_of_name (by decide +kernel)⟩
theorem mi_X12_product2 : Cond.instanceMethod yX12_product2 ∈ gtbl := tg (tb_8 (List.mem_of_getElem? (i := 136) rfl)) rfl
theorem msel_X12_product2 : Cond.selects yX12_product2.cls yX12_product2 yX12_product2 ∈ gtbl := tg (List.mem_append_left _ (List.mem_map.mpr ⟨(⟨"SpanValuesModel", "product2", "(II)I"⟩, _), (List.mem_append_right _ (List.mem_append_right _ (List.mem_append_right _ (List.mem_append_right _ (List.mem_append_right _ (List.mem_append_left _ (List.mem_of_getElem? (i := 13) rfl)))))) : _ ∈ lw_privs), rfl⟩)) rfl
theorem my_X12_puts : MYk yX12_puts cX12_puts 2 none 1 := ⟨tg (tb_10 (List.mem_of_getElem? (i := 25) rfl)) rfl, tg (tb_1 (List.mem_of_getElem? (i := 13) rfl)) rfl, ⟨by decide, by decide⟩, by decide +kernel, plainFor_of_name (by decide +kernel)⟩
theorem mi_X12_puts : Cond.instanceMethod yX12_puts ∈ gtbl := tg (tb_10 (List.mem_of_getElem? (i := 24) rfl)) rfl
theorem msel_X12_puts : Cond.selects yX12_puts.cls yX12_puts yX12_puts ∈ gtbl := tg (List.mem_append_left _ (List.mem_map.mpr ⟨(⟨"SpanValuesModel", "puts", "(I)V"⟩, _), (List.mem_append_right _ (List.mem_append_right _ (List.mem_append_right _ (List.mem_append_right _ (List.mem_append_right _ (List.mem_append_right _ (List.mem_append_right _ (List.mem_append_right _ (List.mem_append_right _ (List.mem_append_left _ (List.mem_of_getElem? (i := 11) rfl)))))))))) : _ ∈ lw_privs), rfl⟩)) rfl
theorem my_X12_readPart : MYk yX12_readPart cX12_readPart 2 (some .int) 0 := ⟨tg (tb_8 (List.mem_of_getElem? (i := 99) rfl)) rfl, tg (tb_1 (List.mem_of_getElem? (i := 13) rfl)) rfl, ⟨by decide, by decide⟩, by decide +kernel, plainFor_of_name (by decide +kernel)⟩
theorem mi_X12_readPart : Cond.instanceMethod yX12_readPart ∈ gtbl := tg (tb_8 (List.mem_of_getElem? (i := 98) rfl)) rfl
theorem msel_X12_readPart : Cond.selects yX12_readPart.cls yX12_readPart yX12_readPart ∈ gtbl := tg (List.mem_append_left _ (List.mem_map.mpr ⟨(⟨"SpanValuesModel", "readPart", "()I"⟩, _), (List.mem_append_right _ (List.mem_append_right _ (List.mem_append_right _ (List.mem_append_right _ (List.mem_append_right _ (List.mem_append_left _ (List.mem_of_getElem? (i := 8) rfl)))))) : _ ∈ lw_privs), rfl⟩)) rfl
theorem my_X12_readRule : MYk yX12_readRule cX12_readRule 2 none 0 := ⟨tg (tb_8 (List.mem_of_getElem? (i := 91) rfl)) rfl, tg (tb_1 (List.mem_of_getElem? (i := 13) rfl)) rfl, ⟨by decide, by decide⟩, by decide +kernel, plainFor_of_name (by decide +kernel)⟩
theorem mi_X12_readRule : Cond.instanceMethod yX12_readRule ∈ gtbl := tg (tb_8 (List.mem_of_getElem? (i := 90) rfl)) rfl
theorem msel_X12_readRule : Cond.selects yX12_readRule.cls yX12_readRule yX12_readRule ∈ gtbl := tg (List.mem_append_left _ (List.mem_map.mpr ⟨(⟨"SpanValuesModel", "readRule", "()V"⟩, _), (List.mem_append_right _ (List.mem_append_right _ (List.mem_append_right _ (List.mem_append_right _ (List.mem_append_right _ (List.mem_append_left _ (List.mem_of_getElem? (i := 6) rfl)))))) : _ ∈ lw_privs), rfl⟩)) rfl
theorem my_X12_readTable : MYk yX12_readTable cX12_readTable 2 none 0 := ⟨tg (tb_8 (List.mem_of_getElem? (i := 70) rfl)) rfl, tg (tb_1 (List.mem_of_getElem? (i := 13) rfl)) rfl, ⟨by decide, by decide⟩, by decide +kernel, plainFor_of_name (by decide +kernel)⟩
theorem mi_X12_readTable : Cond.instanceMethod yX12_readTable ∈ gtbl := tg (tb_8 (List.mem_of_getElem? (i := 69) rfl)) rfl
theorem msel_X12_readTable : Cond.selects yX12_readTable.cls yX12_readTable yX12_readTable ∈ gtbl := tg (List.mem_append_left _ (List.mem_map.mpr ⟨(⟨"SpanValuesModel", "readTable", "()V"⟩, _), (List.mem_append_right _ (List.mem_append_right _ (List.mem_append_right _ (List.mem_append_right _ (List.mem_append_right _ (List.mem_append_left _ (List.mem_of_getElem? (i := 2) rfl)))))) : _ ∈ lw_privs), rfl⟩)) rfl
theorem my_X12_rings : MYk yX12_rings cX12_rings 1 (some .int) 0 := ⟨tg (tb_10 (List.mem_of_getElem? (i := 78) rfl)) rfl, tg (tb_1 (List.mem_of_getElem? (i := 13) rfl)) rfl, ⟨by decide, by decide⟩, by decide +kernel, plainFor_of_name (by decide +kernel)⟩
theorem mi_X12_rings : Cond.instanceMethod yX12_rings ∈ gtbl := tg (tb_10 (List.mem_of_getElem? (i := 76) rfl)) rfl
theorem msel_X12_rings : Cond.selects yX12_rings.cls yX12_rings yX12_rings ∈ gtbl := tg (tb_10 (List.mem_of_getElem? (i := 77) rfl)) rfl
theorem my_X12_ringsAt : MYk yX12_ringsAt cX12_ringsAt 5 (some .int) 2 := ⟨tg (tb_8 (List.mem_of_getElem? (i := 221) rfl)) rfl, tg (tb_1 (List.mem_of_getElem? (i := 13) rfl)) rfl, ⟨by decide, by decide⟩, by decide +kernel, plainFor_of_name (by decide +kernel)⟩
theorem mi_X12_ringsAt : Cond.instanceMethod yX12_ringsAt ∈ gtbl := tg (tb_8 (List.mem_of_getElem? (i := 220) rfl)) rfl
theorem msel_X12_ringsAt : Cond.selects yX12_ringsAt.cls yX12_ringsAt yX12_ringsAt ∈ gtbl := tg (List.mem_append_left _ (List.mem_map.mpr ⟨(⟨"SpanValuesModel", "ringsAt", "(II)I"⟩, _), (List.mem_append_right _ (List.mem_append_right _ (List.mem_append_right _ (List.mem_append_right _ (List.mem_append_right _ (List.mem_append_right _ (List.mem_append_left _ (List.mem_of_getElem? (i := 10) rfl))))))) : _ ∈ lw_privs), rfl⟩)) rfl
theorem my_X12_rounds : MYk yX12_rounds cX12_rounds 1 (some .int) 0 := ⟨tg (tb_9 (List.mem_of_getElem? (i := 106) rfl)) rfl, tg (tb_1 (List.mem_of_getElem? (i := 13) rfl)) rfl, ⟨by decide, by decide⟩, by decide +kernel, plainFor_of_name (by decide +kernel)⟩
theorem mi_X12_rounds : Cond.instanceMethod yX12_rounds ∈ gtbl := tg (tb_9 (List.mem_of_getElem? (i := 104) rfl)) rfl
theorem msel_X12_rounds : Cond.selects yX12_rounds.cls yX12_rounds yX12_rounds ∈ gtbl := tg (tb_9 (List.mem_of_getElem? (i := 105) rfl)) rfl
theorem my_X12_rowOf : MYk yX12_rowOf cX12_rowOf 3 (some .int) 1 := ⟨tg (tb_9 (List.mem_of_getElem? (i := 59) rfl)) rfl, tg (tb_1 (List.mem_of_getElem? (i := 13) rfl)) rfl, ⟨by decide, by decide⟩, by decide +kernel, plainFor_of_name (by decide +kernel)⟩
theorem mi_X12_rowOf : Cond.instanceMethod yX12_rowOf ∈ gtbl := tg (tb_9 (List.mem_of_getElem? (i := 58) rfl)) rfl
theorem msel_X12_rowOf : Cond.selects yX12_rowOf.cls yX12_rowOf yX12_rowOf ∈ gtbl := tg (List.mem_append_left _ (List.mem_map.mpr ⟨(⟨"SpanValuesModel", "rowOf", "(I)I"⟩, _), (List.mem_append_right _ (List.mem_append_right _ (List.mem_append_right _ (List.mem_append_right _ (List.mem_append_right _ (List.mem_append_right _ (List.mem_append_right _ (List.mem_append_left _ (List.mem_of_getElem? (i := 7) rfl)))))))) : _ ∈ lw_privs), rfl⟩)) rfl
theorem my_X12_rule : MYk yX12_rule cX12_rule 3 (some .int) 2 := ⟨tg (tb_8 (List.mem_of_getElem? (i := 117) rfl)) rfl, tg (tb_1 (List.mem_of_getElem? (i := 13) rfl)) rfl, ⟨by decide, by decide⟩, by decide +kernel, plainFor_of_name (by decide +kernel)⟩
theorem mi_X12_rule : Cond.instanceMethod yX12_rule ∈ gtbl := tg (tb_8 (List.mem_of_getElem? (i := 115) rfl)) rfl
theorem msel_X12_rule : Cond.selects yX12_rule.cls yX12_rule yX12_rule ∈ gtbl := tg (tb_8 (List.mem_of_getElem? (i := 116) rfl)) rfl
theorem my_X12_say : MYk yX12_say cX12_say 3 (some .int) 0 := ⟨tg (tb_8 (List.mem_of_getElem? (i := 113) rfl)) rfl, tg (tb_1 (List.mem_of_getElem? (i := 13) rfl)) rfl, ⟨by decide, by decide⟩, by decide +kernel, plainFor_of_name (by decide +kernel)⟩
theorem mi_X12_say : Cond.instanceMethod yX12_say ∈ gtbl := tg (tb_8 (List.mem_of_getElem? (i := 111) rfl)) rfl
theorem msel_X12_say : Cond.selects yX12_say.cls yX12_say yX12_say ∈ gtbl := tg (tb_8 (List.mem_of_getElem? (i := 112) rfl)) rfl
theorem my_X12_see : MYk yX12_see cX12_see 2 (some .int) 1 := ⟨tg (tb_8 (List.mem_of_getElem? (i := 48) rfl)) rfl, tg (tb_1 (List.mem_of_getElem? (i := 13) rfl)) rfl, ⟨by decide, by decide⟩, by decide +kernel, plainFor_of_name (by decide +kernel)⟩
theorem mi_X12_see : Cond.instanceMethod yX12_see ∈ gtbl := tg (tb_8 (List.mem_of_getElem? (i := 47) rfl)) rfl
theorem msel_X12_see : Cond.selects yX12_see.cls yX12_see yX12_see ∈ gtbl := tg (List.mem_append_left _ (List.mem_map.mpr ⟨(⟨"SpanValuesModel", "see", "(I)I"⟩, _), (List.mem_append_right _ (List.mem_append_right _ (List.mem_append_right _ (List.mem_append_right _ (List.mem_append_left _ (List.mem_of_getElem? (i := 15) rfl))))) : _ ∈ lw_privs), rfl⟩)) rfl
theorem my_X12_settled : MYk yX12_settled cX12_settled 13 (some .int) 2 := ⟨tg (tb_9 (List.mem_of_getElem? (i := 143) rfl)) rfl, tg (tb_1 (List.mem_of_getElem? (i := 13) rfl)) rfl, ⟨by decide, by decide⟩, by decide +kernel, plainFor_of_name (by decide +kernel)⟩
theorem mi_X12_settled : Cond.instanceMethod yX12_settled ∈ gtbl := tg (tb_9 (List.mem_of_getElem? (i := 141) rfl)) rfl
theorem msel_X12_settled : Cond.selects yX12_settled.cls yX12_settled yX12_settled ∈ gtbl := tg (tb_9 (List.mem_of_getElem? (i := 142) rfl)) rfl
theorem my_X12_settles : MYk yX12_settles cX12_settles 2 (some .boolean) 0 := ⟨tg (tb_9 (List.mem_of_getElem? (i := 86) rfl)) rfl, tg (tb_1 (List.mem_of_getElem? (i := 13) rfl)) rfl, ⟨by decide, by decide⟩, by decide +kernel, plainFor_of_name (by decide +kernel)⟩
theorem mi_X12_settles : Cond.instanceMethod yX12_settles ∈ gtbl := tg (tb_9 (List.mem_of_getElem? (i := 85) rfl)) rfl
theorem msel_X12_settles : Cond.selects yX12_settles.cls yX12_settles yX12_settles ∈ gtbl := tg (List.mem_append_left _ (List.mem_map.mpr ⟨(⟨"SpanValuesModel", "settles", "()Z"⟩, _), (List.mem_append_right _ (List.mem_append_right _ (List.mem_append_right _ (List.mem_append_right _ (List.mem_append_right _ (List.mem_append_right _ (List.mem_append_right _ (List.mem_append_left _ (List.mem_of_getElem? (i := 11) rfl)))))))) : _ ∈ lw_privs), rfl⟩)) rfl
theorem my_X12_size : MYk yX12_size cX12_size 7 (some .int) 5 := ⟨tg (tb_9 (List.mem_of_getElem? (i := 229) rfl)) rfl, tg (tb_1 (List.mem_of_getElem? (i := 13) rfl)) rfl, ⟨by decide, by decide⟩, by decide +kernel, plainFor_of_name (by decide +kernel)⟩
theorem mi_X12_size : Cond.instanceMethod yX12_size ∈ gtbl := tg (tb_9 (List.mem_of_getElem? (i := 227) rfl)) rfl
theorem msel_X12_size : Cond.selects yX12_size.cls yX12_size yX12_size ∈ gtbl := tg (tb_9 (List.mem_of_getElem? (i := 228) rfl)) rfl
theorem my_X12_span : MYk yX12_span cX12_span 2 (some .int) 2 := ⟨tg (tb_9 (List.mem_of_getElem? (i := 66) rfl)) rfl, tg (tb_1 (List.mem_of_getElem? (i := 13) rfl)) rfl, ⟨by decide, by decide⟩, by decide +kernel, plainFor_of_name (by decide +kernel)⟩
theorem ms_X12_span : Cond.static yX12_span ∈ gtbl := tg (tb_9 (List.mem_of_getElem? (i := 65) rfl)) rfl
theorem my_X12_start : MYk yX12_start cX12_start 1 (some .int) 0 := ⟨tg (tb_10 (List.mem_of_getElem? (i := 5) rfl)) rfl, tg (tb_1 (List.mem_of_getElem? (i := 13) rfl)) rfl, ⟨by decide, by decide⟩, by decide +kernel, plainFor_of_name (by decide +kernel)⟩
theorem mi_X12_start : Cond.instanceMethod yX12_start ∈ gtbl := tg (tb_10 (List.mem_of_getElem? (i := 4) rfl)) rfl
theorem msel_X12_start : Cond.selects yX12_start.cls yX12_start yX12_start ∈ gtbl := tg (List.mem_append_left _ (List.mem_map.mpr ⟨(⟨"SpanValuesModel", "start", "()I"⟩, _), (List.mem_append_right _ (List.mem_append_right _ (List.mem_append_right _ (List.mem_append_right _ (List.mem_append_right _ (List.mem_append_right _ (List.mem_append_right _ (List.mem_append_right _ (List.mem_append_right _ (List.mem_append_left _ (List.mem_of_getElem? (i := 8) rfl)))))))))) : _ ∈ lw_privs), rfl⟩)) rfl
theorem my_X12_step : MYk yX12_step cX12_step 7 (some .int) 5 := ⟨tg (tb_9 (List.mem_of_getElem? (i := 233) rfl)) rfl, tg (tb_1 (List.mem_of_getElem? (i := 13) rfl)) rfl, ⟨by decide, by decide⟩, by decide +kernel, plainFor_of_name (by decide +kernel)⟩
theorem mi_X12_step : Cond.instanceMethod yX12_step ∈ gtbl := tg (tb_9 (List.mem_of_getElem? (i := 231) rfl)) rfl
theorem msel_X12_step : Cond.selects yX12_step.cls yX12_step yX12_step ∈ gtbl := tg (tb_9 (List.mem_of_getElem? (i := 232) rfl)) rfl
theorem my_X12_stepOf : MYk yX12_stepOf cX12_stepOf 6 (some .int) 2 := ⟨tg (tb_9 (List.mem_of_getElem? (i := 237) rfl)) rfl, tg (tb_1 (List.mem_of_getElem? (i := 13) rfl)) rfl, ⟨by decide, by decide⟩, by decide +kernel, plainFor_of_name (by decide +kernel)⟩
theorem mi_X12_stepOf : Cond.instanceMethod yX12_stepOf ∈ gtbl := tg (tb_9 (List.mem_of_getElem? (i := 236) rfl)) rfl
theorem msel_X12_stepOf : Cond.selects yX12_stepOf.cls yX12_stepOf yX12_stepOf ∈ gtbl := tg (List.mem_append_left _ (List.mem_map.mpr ⟨(⟨"SpanValuesModel", "stepOf", "(II)I"⟩, _), (List.mem_append_right _ (List.mem_append_right _ (List.mem_append_right _ (List.mem_append_right _ (List.mem_append_right _ (List.mem_append_right _ (List.mem_append_right _ (List.mem_append_right _ (List.mem_append_right _ (List.mem_append_left _ (List.mem_of_getElem? (i := 7) rfl)))))))))) : _ ∈ lw_privs), rfl⟩)) rfl
theorem my_X12_stepsNode : MYk yX12_stepsNode cX12_stepsNode 2 (some .int) 1 := ⟨tg (tb_9 (List.mem_of_getElem? (i := 193) rfl)) rfl, tg (tb_1 (List.mem_of_getElem? (i := 13) rfl)) rfl, ⟨by decide, by decide⟩, by decide +kernel, plainFor_of_name (by decide +kernel)⟩
theorem mi_X12_stepsNode : Cond.instanceMethod yX12_stepsNode ∈ gtbl := tg (tb_9 (List.mem_of_getElem? (i := 192) rfl)) rfl
theorem msel_X12_stepsNode : Cond.selects yX12_stepsNode.cls yX12_stepsNode yX12_stepsNode ∈ gtbl := tg (List.mem_append_left _ (List.mem_map.mpr ⟨(⟨"SpanValuesModel", "stepsNode", "(I)I"⟩, _), (List.mem_append_right _ (List.mem_append_right _ (List.mem_append_right _ (List.mem_append_right _ (List.mem_append_right _ (List.mem_append_right _ (List.mem_append_right _ (List.mem_append_right _ (List.mem_append_left _ (List.mem_of_getElem? (i := 14) rfl))))))))) : _ ∈ lw_privs), rfl⟩)) rfl
theorem my_X12_sum : MYk yX12_sum cX12_sum 6 (some .int) 3 := ⟨tg (tb_9 (List.mem_of_getElem? (i := 47) rfl)) rfl, tg (tb_1 (List.mem_of_getElem? (i := 13) rfl)) rfl, ⟨by decide, by decide⟩, by decide +kernel, plainFor_of_name (by decide +kernel)⟩
theorem mi_X12_sum : Cond.instanceMethod yX12_sum ∈ gtbl := tg (tb_9 (List.mem_of_getElem? (i := 45) rfl)) rfl
theorem msel_X12_sum : Cond.selects yX12_sum.cls yX12_sum yX12_sum ∈ gtbl := tg (tb_9 (List.mem_of_getElem? (i := 46) rfl)) rfl
theorem my_X12_sum2 : MYk yX12_sum2 cX12_sum2 3 (some .int) 2 := ⟨tg (tb_8 (List.mem_of_getElem? (i := 133) rfl)) rfl, tg (tb_1 (List.mem_of_getElem? (i := 13) rfl)) rfl, ⟨by decide, by decide⟩, by decide +kernel, plainFor_of_name (by decide +kernel)⟩
theorem mi_X12_sum2 : Cond.instanceMethod yX12_sum2 ∈ gtbl := tg (tb_8 (List.mem_of_getElem? (i := 132) rfl)) rfl
theorem msel_X12_sum2 : Cond.selects yX12_sum2.cls yX12_sum2 yX12_sum2 ∈ gtbl := tg (List.mem_append_left _ (List.mem_map.mpr ⟨(⟨"SpanValuesModel", "sum2", "(II)I"⟩, _), (List.mem_append_right _ (List.mem_append_right _ (List.mem_append_right _ (List.mem_append_right _ (List.mem_append_right _ (List.mem_append_left _ (List.mem_of_getElem? (i := 12) rfl)))))) : _ ∈ lw_privs), rfl⟩)) rfl
theorem my_X12_sumPart : MYk yX12_sumPart cX12_sumPart 4 (some .long) 3 := ⟨tg (tb_9 (List.mem_of_getElem? (i := 70) rfl)) rfl, tg (tb_1 (List.mem_of_getElem? (i := 13) rfl)) rfl, ⟨by decide, by decide⟩, by decide +kernel, plainFor_of_name (by decide +kernel)⟩
theorem mi_X12_sumPart : Cond.instanceMethod yX12_sumPart ∈ gtbl := tg (tb_9 (List.mem_of_getElem? (i := 69) rfl)) rfl
theorem msel_X12_sumPart : Cond.selects yX12_sumPart.cls yX12_sumPart yX12_sumPart ∈ gtbl := tg (List.mem_append_left _ (List.mem_map.mpr ⟨(⟨"SpanValuesModel", "sumPart", "(III)J"⟩, _), (List.mem_append_right _ (List.mem_append_right _ (List.mem_append_right _ (List.mem_append_right _ (List.mem_append_right _ (List.mem_append_right _ (List.mem_append_right _ (List.mem_append_left _ (List.mem_of_getElem? (i := 9) rfl)))))))) : _ ∈ lw_privs), rfl⟩)) rfl
theorem my_X12_table : MYk yX12_table cX12_table 4 (some .int) 3 := ⟨tg (tb_8 (List.mem_of_getElem? (i := 125) rfl)) rfl, tg (tb_1 (List.mem_of_getElem? (i := 13) rfl)) rfl, ⟨by decide, by decide⟩, by decide +kernel, plainFor_of_name (by decide +kernel)⟩
theorem mi_X12_table : Cond.instanceMethod yX12_table ∈ gtbl := tg (tb_8 (List.mem_of_getElem? (i := 123) rfl)) rfl
theorem msel_X12_table : Cond.selects yX12_table.cls yX12_table yX12_table ∈ gtbl := tg (tb_8 (List.mem_of_getElem? (i := 124) rfl)) rfl
theorem my_X12_takes : MYk yX12_takes cX12_takes 4 (some .int) 2 := ⟨tg (tb_8 (List.mem_of_getElem? (i := 74) rfl)) rfl, tg (tb_1 (List.mem_of_getElem? (i := 13) rfl)) rfl, ⟨by decide, by decide⟩, by decide +kernel, plainFor_of_name (by decide +kernel)⟩
theorem mi_X12_takes : Cond.instanceMethod yX12_takes ∈ gtbl := tg (tb_8 (List.mem_of_getElem? (i := 73) rfl)) rfl
theorem msel_X12_takes : Cond.selects yX12_takes.cls yX12_takes yX12_takes ∈ gtbl := tg (List.mem_append_left _ (List.mem_map.mpr ⟨(⟨"SpanValuesModel", "takes", "(II)I"⟩, _), (List.mem_append_right _ (List.mem_append_right _ (List.mem_append_right _ (List.mem_append_right _ (List.mem_append_right _ (List.mem_append_left _ (List.mem_of_getElem? (i := 3) rfl)))))) : _ ∈ lw_privs), rfl⟩)) rfl
theorem my_X12_takesNode : MYk yX12_takesNode cX12_takesNode 1 none 0 := ⟨tg (tb_9 (List.mem_of_getElem? (i := 213) rfl)) rfl, tg (tb_1 (List.mem_of_getElem? (i := 13) rfl)) rfl, ⟨by decide, by decide⟩, by decide +kernel, plainFor_of_name (by decide +kernel)⟩
theorem mi_X12_takesNode : Cond.instanceMethod yX12_takesNode ∈ gtbl := tg (tb_9 (List.mem_of_getElem? (i := 212) rfl)) rfl
theorem msel_X12_takesNode : Cond.selects yX12_takesNode.cls yX12_takesNode yX12_takesNode ∈ gtbl := tg (List.mem_append_left _ (List.mem_map.mpr ⟨(⟨"SpanValuesModel", "takesNode", "()V"⟩, _), (List.mem_append_right _ (List.mem_append_right _ (List.mem_append_right _ (List.mem_append_right _ (List.mem_append_right _ (List.mem_append_right _ (List.mem_append_right _ (List.mem_append_right _ (List.mem_append_right _ (List.mem_append_left _ (List.mem_of_getElem? (i := 3) rfl)))))))))) : _ ∈ lw_privs), rfl⟩)) rfl
theorem my_X12_takesSign : MYk yX12_takesSign cX12_takesSign 2 none 1 := ⟨tg (tb_8 (List.mem_of_getElem? (i := 95) rfl)) rfl, tg (tb_1 (List.mem_of_getElem? (i := 13) rfl)) rfl, ⟨by decide, by decide⟩, by decide +kernel, plainFor_of_name (by decide +kernel)⟩
theorem mi_X12_takesSign : Cond.instanceMethod yX12_takesSign ∈ gtbl := tg (tb_8 (List.mem_of_getElem? (i := 94) rfl)) rfl
theorem msel_X12_takesSign : Cond.selects yX12_takesSign.cls yX12_takesSign yX12_takesSign ∈ gtbl := tg (List.mem_append_left _ (List.mem_map.mpr ⟨(⟨"SpanValuesModel", "takesSign", "(I)V"⟩, _), (List.mem_append_right _ (List.mem_append_right _ (List.mem_append_right _ (List.mem_append_right _ (List.mem_append_right _ (List.mem_append_left _ (List.mem_of_getElem? (i := 7) rfl)))))) : _ ∈ lw_privs), rfl⟩)) rfl
theorem my_X12_takesWord : MYk yX12_takesWord cX12_takesWord 2 none 1 := ⟨tg (tb_8 (List.mem_of_getElem? (i := 83) rfl)) rfl, tg (tb_1 (List.mem_of_getElem? (i := 13) rfl)) rfl, ⟨by decide, by decide⟩, by decide +kernel, plainFor_of_name (by decide +kernel)⟩
theorem mi_X12_takesWord : Cond.instanceMethod yX12_takesWord ∈ gtbl := tg (tb_8 (List.mem_of_getElem? (i := 82) rfl)) rfl
theorem msel_X12_takesWord : Cond.selects yX12_takesWord.cls yX12_takesWord yX12_takesWord ∈ gtbl := tg (List.mem_append_left _ (List.mem_map.mpr ⟨(⟨"SpanValuesModel", "takesWord", "(Ljava/lang/String;)V"⟩, _), (List.mem_append_right _ (List.mem_append_right _ (List.mem_append_right _ (List.mem_append_right _ (List.mem_append_right _ (List.mem_append_left _ (List.mem_of_getElem? (i := 5) rfl)))))) : _ ∈ lw_privs), rfl⟩)) rfl
theorem my_X12_tell : MYk yX12_tell cX12_tell 6 (some .int) 4 := ⟨tg (tb_10 (List.mem_of_getElem? (i := 17) rfl)) rfl, tg (tb_1 (List.mem_of_getElem? (i := 13) rfl)) rfl, ⟨by decide, by decide⟩, by decide +kernel, plainFor_of_name (by decide +kernel)⟩
theorem mi_X12_tell : Cond.instanceMethod yX12_tell ∈ gtbl := tg (tb_10 (List.mem_of_getElem? (i := 15) rfl)) rfl
theorem msel_X12_tell : Cond.selects yX12_tell.cls yX12_tell yX12_tell ∈ gtbl := tg (tb_10 (List.mem_of_getElem? (i := 16) rfl)) rfl
theorem my_X12_tells : MYk yX12_tells cX12_tells 3 none 1 := ⟨tg (tb_10 (List.mem_of_getElem? (i := 21) rfl)) rfl, tg (tb_1 (List.mem_of_getElem? (i := 13) rfl)) rfl, ⟨by decide, by decide⟩, by decide +kernel, plainFor_of_name (by decide +kernel)⟩
theorem mi_X12_tells : Cond.instanceMethod yX12_tells ∈ gtbl := tg (tb_10 (List.mem_of_getElem? (i := 20) rfl)) rfl
theorem msel_X12_tells : Cond.selects yX12_tells.cls yX12_tells yX12_tells ∈ gtbl := tg (List.mem_append_left _ (List.mem_map.mpr ⟨(⟨"SpanValuesModel", "tells", "(I)V"⟩, _), (List.mem_append_right _ (List.mem_append_right _ (List.mem_append_right _ (List.mem_append_right _ (List.mem_append_right _ (List.mem_append_right _ (List.mem_append_right _ (List.mem_append_right _ (List.mem_append_right _ (List.mem_append_left _ (List.mem_of_getElem? (i := 10) rfl)))))))))) : _ ∈ lw_privs), rfl⟩)) rfl
theorem my_X12_tellsPart : MYk yX12_tellsPart cX12_tellsPart 3 none 2 := ⟨tg (tb_10 (List.mem_of_getElem? (i := 29) rfl)) rfl, tg (tb_1 (List.mem_of_getElem? (i := 13) rfl)) rfl, ⟨by decide, by decide⟩, by decide +kernel, plainFor_of_name (by decide +kernel)⟩
theorem mi_X12_tellsPart : Cond.instanceMethod yX12_tellsPart ∈ gtbl := tg (tb_10 (List.mem_of_getElem? (i := 28) rfl)) rfl
theorem msel_X12_tellsPart : Cond.selects yX12_tellsPart.cls yX12_tellsPart yX12_tellsPart ∈ gtbl := tg (List.mem_append_left _ (List.mem_map.mpr ⟨(⟨"SpanValuesModel", "tellsPart", "(II)V"⟩, _), (List.mem_append_right _ (List.mem_append_right _ (List.mem_append_right _ (List.mem_append_right _ (List.mem_append_right _ (List.mem_append_right _ (List.mem_append_right _ (List.mem_append_right _ (List.mem_append_right _ (List.mem_append_left _ (List.mem_of_getElem? (i := 12) rfl)))))))))) : _ ∈ lw_privs), rfl⟩)) rfl
theorem my_X12_timesGreat : MYk yX12_timesGreat cX12_timesGreat 4 (some .long) 2 := ⟨tg (tb_9 (List.mem_of_getElem? (i := 12) rfl)) rfl, tg (tb_1 (List.mem_of_getElem? (i := 13) rfl)) rfl, ⟨by decide, by decide⟩, by decide +kernel, plainFor_of_name (by decide +kernel)⟩
theorem ms_X12_timesGreat : Cond.static yX12_timesGreat ∈ gtbl := tg (tb_9 (List.mem_of_getElem? (i := 11) rfl)) rfl
theorem my_X12_treeOf : MYk yX12_treeOf cX12_treeOf 6 (some .int) 4 := ⟨tg (tb_9 (List.mem_of_getElem? (i := 225) rfl)) rfl, tg (tb_1 (List.mem_of_getElem? (i := 13) rfl)) rfl, ⟨by decide, by decide⟩, by decide +kernel, plainFor_of_name (by decide +kernel)⟩
theorem mi_X12_treeOf : Cond.instanceMethod yX12_treeOf ∈ gtbl := tg (tb_9 (List.mem_of_getElem? (i := 224) rfl)) rfl
theorem msel_X12_treeOf : Cond.selects yX12_treeOf.cls yX12_treeOf yX12_treeOf ∈ gtbl := tg (List.mem_append_left _ (List.mem_map.mpr ⟨(⟨"SpanValuesModel", "treeOf", "(IIII)I"⟩, _), (List.mem_append_right _ (List.mem_append_right _ (List.mem_append_right _ (List.mem_append_right _ (List.mem_append_right _ (List.mem_append_right _ (List.mem_append_right _ (List.mem_append_right _ (List.mem_append_right _ (List.mem_append_left _ (List.mem_of_getElem? (i := 6) rfl)))))))))) : _ ∈ lw_privs), rfl⟩)) rfl
theorem my_X12_turnsOnce : MYk yX12_turnsOnce cX12_turnsOnce 6 (some .boolean) 0 := ⟨tg (tb_9 (List.mem_of_getElem? (i := 90) rfl)) rfl, tg (tb_1 (List.mem_of_getElem? (i := 13) rfl)) rfl, ⟨by decide, by decide⟩, by decide +kernel, plainFor_of_name (by decide +kernel)⟩
theorem mi_X12_turnsOnce : Cond.instanceMethod yX12_turnsOnce ∈ gtbl := tg (tb_9 (List.mem_of_getElem? (i := 89) rfl)) rfl
theorem msel_X12_turnsOnce : Cond.selects yX12_turnsOnce.cls yX12_turnsOnce yX12_turnsOnce ∈ gtbl := tg (List.mem_append_left _ (List.mem_map.mpr ⟨(⟨"SpanValuesModel", "turnsOnce", "()Z"⟩, _), (List.mem_append_right _ (List.mem_append_right _ (List.mem_append_right _ (List.mem_append_right _ (List.mem_append_right _ (List.mem_append_right _ (List.mem_append_right _ (List.mem_append_left _ (List.mem_of_getElem? (i := 12) rfl)))))))) : _ ∈ lw_privs), rfl⟩)) rfl
theorem my_X12_used : MYk yX12_used cX12_used 8 (some .long) 4 := ⟨tg (tb_9 (List.mem_of_getElem? (i := 35) rfl)) rfl, tg (tb_1 (List.mem_of_getElem? (i := 13) rfl)) rfl, ⟨by decide, by decide⟩, by decide +kernel, plainFor_of_name (by decide +kernel)⟩
theorem mi_X12_used : Cond.instanceMethod yX12_used ∈ gtbl := tg (tb_9 (List.mem_of_getElem? (i := 33) rfl)) rfl
theorem msel_X12_used : Cond.selects yX12_used.cls yX12_used yX12_used ∈ gtbl := tg (tb_9 (List.mem_of_getElem? (i := 34) rfl)) rfl
theorem my_X12_value : MYk yX12_value cX12_value 4 (some .int) 3 := ⟨tg (tb_9 (List.mem_of_getElem? (i := 82) rfl)) rfl, tg (tb_1 (List.mem_of_getElem? (i := 13) rfl)) rfl, ⟨by decide, by decide⟩, by decide +kernel, plainFor_of_name (by decide +kernel)⟩
theorem mi_X12_value : Cond.instanceMethod yX12_value ∈ gtbl := tg (tb_9 (List.mem_of_getElem? (i := 80) rfl)) rfl
theorem msel_X12_value : Cond.selects yX12_value.cls yX12_value yX12_value ∈ gtbl := tg (tb_9 (List.mem_of_getElem? (i := 81) rfl)) rfl
theorem my_X12_valueAnew : MYk yX12_valueAnew cX12_valueAnew 7 (some .int) 3 := ⟨tg (tb_9 (List.mem_of_getElem? (i := 94) rfl)) rfl, tg (tb_1 (List.mem_of_getElem? (i := 13) rfl)) rfl, ⟨by decide, by decide⟩, by decide +kernel, plainFor_of_name (by decide +kernel)⟩
theorem mi_X12_valueAnew : Cond.instanceMethod yX12_valueAnew ∈ gtbl := tg (tb_9 (List.mem_of_getElem? (i := 93) rfl)) rfl
theorem msel_X12_valueAnew : Cond.selects yX12_valueAnew.cls yX12_valueAnew yX12_valueAnew ∈ gtbl := tg (List.mem_append_left _ (List.mem_map.mpr ⟨(⟨"SpanValuesModel", "valueAnew", "(III)I"⟩, _), (List.mem_append_right _ (List.mem_append_right _ (List.mem_append_right _ (List.mem_append_right _ (List.mem_append_right _ (List.mem_append_right _ (List.mem_append_right _ (List.mem_append_left _ (List.mem_of_getElem? (i := 13) rfl)))))))) : _ ∈ lw_privs), rfl⟩)) rfl
theorem my_X12_valuePart : MYk yX12_valuePart cX12_valuePart 4 (some .int) 3 := ⟨tg (tb_9 (List.mem_of_getElem? (i := 102) rfl)) rfl, tg (tb_1 (List.mem_of_getElem? (i := 13) rfl)) rfl, ⟨by decide, by decide⟩, by decide +kernel, plainFor_of_name (by decide +kernel)⟩
theorem mi_X12_valuePart : Cond.instanceMethod yX12_valuePart ∈ gtbl := tg (tb_9 (List.mem_of_getElem? (i := 101) rfl)) rfl
theorem msel_X12_valuePart : Cond.selects yX12_valuePart.cls yX12_valuePart yX12_valuePart ∈ gtbl := tg (List.mem_append_left _ (List.mem_map.mpr ⟨(⟨"SpanValuesModel", "valuePart", "(III)I"⟩, _), (List.mem_append_right _ (List.mem_append_right _ (List.mem_append_right _ (List.mem_append_right _ (List.mem_append_right _ (List.mem_append_right _ (List.mem_append_right _ (List.mem_append_left _ (List.mem_of_getElem? (i := 15) rfl)))))))) : _ ∈ lw_privs), rfl⟩)) rfl
theorem my_X12_waits : MYk yX12_waits cX12_waits 2 none 1 := ⟨tg (tb_9 (List.mem_of_getElem? (i := 217) rfl)) rfl, tg (tb_1 (List.mem_of_getElem? (i := 13) rfl)) rfl, ⟨by decide, by decide⟩, by decide +kernel, plainFor_of_name (by decide +kernel)⟩
theorem mi_X12_waits : Cond.instanceMethod yX12_waits ∈ gtbl := tg (tb_9 (List.mem_of_getElem? (i := 216) rfl)) rfl
theorem msel_X12_waits : Cond.selects yX12_waits.cls yX12_waits yX12_waits ∈ gtbl := tg (List.mem_append_left _ (List.mem_map.mpr ⟨(⟨"SpanValuesModel", "waits", "(I)V"⟩, _), (List.mem_append_right _ (List.mem_append_right _ (List.mem_append_right _ (List.mem_append_right _ (List.mem_append_right _ (List.mem_append_right _ (List.mem_append_right _ (List.mem_append_right _ (List.mem_append_right _ (List.mem_append_left _ (List.mem_of_getElem? (i := 4) rfl)))))))))) : _ ∈ lw_privs), rfl⟩)) rfl
theorem my_X12_ways : MYk yX12_ways cX12_ways 6 (some .long) 3 := ⟨tg (tb_8 (List.mem_of_getElem? (i := 208) rfl)) rfl, tg (tb_1 (List.mem_of_getElem? (i := 13) rfl)) rfl, ⟨by decide, by decide⟩, by decide +kernel, plainFor_of_name (by decide +kernel)⟩
theorem mi_X12_ways : Cond.instanceMethod yX12_ways ∈ gtbl := tg (tb_8 (List.mem_of_getElem? (i := 206) rfl)) rfl
theorem msel_X12_ways : Cond.selects yX12_ways.cls yX12_ways yX12_ways ∈ gtbl := tg (tb_8 (List.mem_of_getElem? (i := 207) rfl)) rfl
theorem my_X12_waysItem : MYk yX12_waysItem cX12_waysItem 9 (some .long) 3 := ⟨tg (tb_8 (List.mem_of_getElem? (i := 238) rfl)) rfl, tg (tb_1 (List.mem_of_getElem? (i := 13) rfl)) rfl, ⟨by decide, by decide⟩, by decide +kernel, plainFor_of_name (by decide +kernel)⟩
theorem mi_X12_waysItem : Cond.instanceMethod yX12_waysItem ∈ gtbl := tg (tb_8 (List.mem_of_getElem? (i := 237) rfl)) rfl
theorem msel_X12_waysItem : Cond.selects yX12_waysItem.cls yX12_waysItem yX12_waysItem ∈ gtbl := tg (List.mem_append_left _ (List.mem_map.mpr ⟨(⟨"SpanValuesModel", "waysItem", "(III)J"⟩, _), (List.mem_append_right _ (List.mem_append_right _ (List.mem_append_right _ (List.mem_append_right _ (List.mem_append_right _ (List.mem_append_right _ (List.mem_append_left _ (List.mem_of_getElem? (i := 14) rfl))))))) : _ ∈ lw_privs), rfl⟩)) rfl
theorem my_X12_waysPart : MYk yX12_waysPart cX12_waysPart 4 (some .long) 3 := ⟨tg (tb_9 (List.mem_of_getElem? (i := 2) rfl)) rfl, tg (tb_1 (List.mem_of_getElem? (i := 13) rfl)) rfl, ⟨by decide, by decide⟩, by decide +kernel, plainFor_of_name (by decide +kernel)⟩
theorem mi_X12_waysPart : Cond.instanceMethod yX12_waysPart ∈ gtbl := tg (tb_9 (List.mem_of_getElem? (i := 1) rfl)) rfl
theorem msel_X12_waysPart : Cond.selects yX12_waysPart.cls yX12_waysPart yX12_waysPart ∈ gtbl := tg (List.mem_append_left _ (List.mem_map.mpr ⟨(⟨"SpanValuesModel", "waysPart", "(III)J"⟩, _), (List.mem_append_right _ (List.mem_append_right _ (List.mem_append_right _ (List.mem_append_right _ (List.mem_append_right _ (List.mem_append_right _ (List.mem_append_left _ (List.mem_of_getElem? (i := 15) rfl))))))) : _ ∈ lw_privs), rfl⟩)) rfl
theorem my_X12_without : MYk yX12_without cX12_without 2 (some .int) 1 := ⟨tg (tb_10 (List.mem_of_getElem? (i := 54) rfl)) rfl, tg (tb_1 (List.mem_of_getElem? (i := 13) rfl)) rfl, ⟨by decide, by decide⟩, by decide +kernel, plainFor_of_name (by decide +kernel)⟩
theorem mi_X12_without : Cond.instanceMethod yX12_without ∈ gtbl := tg (tb_10 (List.mem_of_getElem? (i := 52) rfl)) rfl
theorem msel_X12_without : Cond.selects yX12_without.cls yX12_without yX12_without ∈ gtbl := tg (tb_10 (List.mem_of_getElem? (i := 53) rfl)) rfl
theorem my_X12_writes : MYk yX12_writes cX12_writes 8 (some .int) 6 := ⟨tg (tb_9 (List.mem_of_getElem? (i := 185) rfl)) rfl, tg (tb_1 (List.mem_of_getElem? (i := 13) rfl)) rfl, ⟨by decide, by decide⟩, by decide +kernel, plainFor_of_name (by decide +kernel)⟩
theorem mi_X12_writes : Cond.instanceMethod yX12_writes ∈ gtbl := tg (tb_9 (List.mem_of_getElem? (i := 184) rfl)) rfl
theorem msel_X12_writes : Cond.selects yX12_writes.cls yX12_writes yX12_writes ∈ gtbl := tg (List.mem_append_left _ (List.mem_map.mpr ⟨(⟨"SpanValuesModel", "writes", "(IIIIII)I"⟩, _), (List.mem_append_right _ (List.mem_append_right _ (List.mem_append_right _ (List.mem_append_right _ (List.mem_append_right _ (List.mem_append_right _ (List.mem_append_right _ (List.mem_append_right _ (List.mem_append_left _ (List.mem_of_getElem? (i := 12) rfl))))))))) : _ ∈ lw_privs), rfl⟩)) rfl
theorem my_X1_casesAround : MYk yX1_casesAround cX1_casesAround 4 (some .int) 1 := ⟨tg (tb_5 (List.mem_of_getElem? (i := 237) rfl)) rfl, tg (tb_1 (List.mem_of_getElem? (i := 5) rfl)) rfl, ⟨by decide, by decide⟩, by decide +kernel, plainFor_of_name (by decide +kernel)⟩
theorem mi_X1_casesAround : Cond.instanceMethod yX1_casesAround ∈ gtbl := tg (tb_5 (List.mem_of_getElem? (i := 235) rfl)) rfl
theorem msel_X1_casesAround : Cond.selects yX1_casesAround.cls yX1_casesAround yX1_casesAround ∈ gtbl := tg (tb_5 (List.mem_of_getElem? (i := 236) rfl)) rfl
theorem my_X1_fill : MYk yX1_fill cX1_fill 8 none 3 := ⟨tg (tb_4 (List.mem_of_getElem? (i := 166) rfl)) rfl, tg (tb_1 (List.mem_of_getElem? (i := 5) rfl)) rfl, ⟨by decide, by decide⟩, by decide +kernel, plainFor_of_name (by decide +kernel)⟩
theorem mi_X1_fill : Cond.instanceMethod yX1_fill ∈ gtbl := tg (tb_4 (List.mem_of_getElem? (i := 165) rfl)) rfl
theorem msel_X1_fill : Cond.selects yX1_fill.cls yX1_fill yX1_fill ∈ gtbl := tg (List.mem_append_left _ (List.mem_map.mpr ⟨(⟨"SpanValues$Costs", "fill", "([IIZ)V"⟩, _), (List.mem_append_right _ (List.mem_append_left _ (List.mem_of_getElem? (i := 6) rfl)) : _ ∈ lw_privs), rfl⟩)) rfl
theorem my_X1_forget : MYk yX1_forget cX1_forget 1 none 0 := ⟨tg (tb_4 (List.mem_of_getElem? (i := 73) rfl)) rfl, tg (tb_1 (List.mem_of_getElem? (i := 5) rfl)) rfl, ⟨by decide, by decide⟩, by decide +kernel, plainFor_of_name (by decide +kernel)⟩
theorem mi_X1_forget : Cond.instanceMethod yX1_forget ∈ gtbl := tg (tb_4 (List.mem_of_getElem? (i := 71) rfl)) rfl
theorem msel_X1_forget : Cond.selects yX1_forget.cls yX1_forget yX1_forget ∈ gtbl := tg (tb_4 (List.mem_of_getElem? (i := 72) rfl)) rfl
theorem my_X1_fullCases : MYk yX1_fullCases cX1_fullCases 4 (some .int) 1 := ⟨tg (tb_5 (List.mem_of_getElem? (i := 232) rfl)) rfl, tg (tb_1 (List.mem_of_getElem? (i := 5) rfl)) rfl, ⟨by decide, by decide⟩, by decide +kernel, plainFor_of_name (by decide +kernel)⟩
theorem mi_X1_fullCases : Cond.instanceMethod yX1_fullCases ∈ gtbl := tg (tb_5 (List.mem_of_getElem? (i := 230) rfl)) rfl
theorem msel_X1_fullCases : Cond.selects yX1_fullCases.cls yX1_fullCases yX1_fullCases ∈ gtbl := tg (tb_5 (List.mem_of_getElem? (i := 231) rfl)) rfl
theorem my_X1_has : MYk yX1_has cX1_has 2 (some .boolean) 1 := ⟨tg (tb_4 (List.mem_of_getElem? (i := 203) rfl)) rfl, tg (tb_1 (List.mem_of_getElem? (i := 5) rfl)) rfl, ⟨by decide, by decide⟩, by decide +kernel, plainFor_of_name (by decide +kernel)⟩
theorem mi_X1_has : Cond.instanceMethod yX1_has ∈ gtbl := tg (tb_4 (List.mem_of_getElem? (i := 201) rfl)) rfl
theorem msel_X1_has : Cond.selects yX1_has.cls yX1_has yX1_has ∈ gtbl := tg (tb_4 (List.mem_of_getElem? (i := 202) rfl)) rfl
theorem my_X1_isFull : MYk yX1_isFull cX1_isFull 4 (some .boolean) 1 := ⟨tg (tb_5 (List.mem_of_getElem? (i := 49) rfl)) rfl, tg (tb_1 (List.mem_of_getElem? (i := 5) rfl)) rfl, ⟨by decide, by decide⟩, by decide +kernel, plainFor_of_name (by decide +kernel)⟩
theorem mi_X1_isFull : Cond.instanceMethod yX1_isFull ∈ gtbl := tg (tb_5 (List.mem_of_getElem? (i := 47) rfl)) rfl
theorem msel_X1_isFull : Cond.selects yX1_isFull.cls yX1_isFull yX1_isFull ∈ gtbl := tg (tb_5 (List.mem_of_getElem? (i := 48) rfl)) rfl
theorem my_X1_itemInOrder : MYk yX1_itemInOrder cX1_itemInOrder 3 (some .int) 1 := ⟨tg (tb_6 (List.mem_of_getElem? (i := 5) rfl)) rfl, tg (tb_1 (List.mem_of_getElem? (i := 5) rfl)) rfl, ⟨by decide, by decide⟩, by decide +kernel, plainFor_of_name (by decide +kernel)⟩
theorem mi_X1_itemInOrder : Cond.instanceMethod yX1_itemInOrder ∈ gtbl := tg (tb_6 (List.mem_of_getElem? (i := 3) rfl)) rfl
theorem msel_X1_itemInOrder : Cond.selects yX1_itemInOrder.cls yX1_itemInOrder yX1_itemInOrder ∈ gtbl := tg (tb_6 (List.mem_of_getElem? (i := 4) rfl)) rfl
theorem my_X1_itemsWithTrees : MYk yX1_itemsWithTrees cX1_itemsWithTrees 3 (some .int) 0 := ⟨tg (tb_4 (List.mem_of_getElem? (i := 126) rfl)) rfl, tg (tb_1 (List.mem_of_getElem? (i := 5) rfl)) rfl, ⟨by decide, by decide⟩, by decide +kernel, plainFor_of_name (by decide +kernel)⟩
theorem mi_X1_itemsWithTrees : Cond.instanceMethod yX1_itemsWithTrees ∈ gtbl := tg (tb_4 (List.mem_of_getElem? (i := 124) rfl)) rfl
theorem msel_X1_itemsWithTrees : Cond.selects yX1_itemsWithTrees.cls yX1_itemsWithTrees yX1_itemsWithTrees ∈ gtbl := tg (tb_4 (List.mem_of_getElem? (i := 125) rfl)) rfl
theorem my_X1_join : MYk yX1_join cX1_join 3 (some .int) 3 := ⟨tg (tb_4 (List.mem_of_getElem? (i := 185) rfl)) rfl, tg (tb_1 (List.mem_of_getElem? (i := 5) rfl)) rfl, ⟨by decide, by decide⟩, by decide +kernel, plainFor_of_name (by decide +kernel)⟩
theorem ms_X1_join : Cond.static yX1_join ∈ gtbl := tg (tb_4 (List.mem_of_getElem? (i := 184) rfl)) rfl
theorem my_X1_leastOfCases : MYk yX1_leastOfCases cX1_leastOfCases 10 (some .int) 4 := ⟨tg (tb_4 (List.mem_of_getElem? (i := 170) rfl)) rfl, tg (tb_1 (List.mem_of_getElem? (i := 5) rfl)) rfl, ⟨by decide, by decide⟩, by decide +kernel, plainFor_of_name (by decide +kernel)⟩
theorem mi_X1_leastOfCases : Cond.instanceMethod yX1_leastOfCases ∈ gtbl := tg (tb_4 (List.mem_of_getElem? (i := 169) rfl)) rfl
theorem msel_X1_leastOfCases : Cond.selects yX1_leastOfCases.cls yX1_leastOfCases yX1_leastOfCases ∈ gtbl := tg (List.mem_append_left _ (List.mem_map.mpr ⟨(⟨"SpanValues$Costs", "leastOfCases", "([IIIZ)I"⟩, _), (List.mem_append_right _ (List.mem_append_left _ (List.mem_of_getElem? (i := 7) rfl)) : _ ∈ lw_privs), rfl⟩)) rfl
theorem my_X1_lesser : MYk yX1_lesser cX1_lesser 2 (some .int) 2 := ⟨tg (tb_4 (List.mem_of_getElem? (i := 191) rfl)) rfl, tg (tb_1 (List.mem_of_getElem? (i := 5) rfl)) rfl, ⟨by decide, by decide⟩, by decide +kernel, plainFor_of_name (by decide +kernel)⟩
theorem ms_X1_lesser : Cond.static yX1_lesser ∈ gtbl := tg (tb_4 (List.mem_of_getElem? (i := 190) rfl)) rfl
theorem my_X1_lowestOf : MYk yX1_lowestOf cX1_lowestOf 2 (some .int) 1 := ⟨tg (tb_5 (List.mem_of_getElem? (i := 20) rfl)) rfl, tg (tb_1 (List.mem_of_getElem? (i := 5) rfl)) rfl, ⟨by decide, by decide⟩, by decide +kernel, plainFor_of_name (by decide +kernel)⟩
theorem mi_X1_lowestOf : Cond.instanceMethod yX1_lowestOf ∈ gtbl := tg (tb_5 (List.mem_of_getElem? (i := 18) rfl)) rfl
theorem msel_X1_lowestOf : Cond.selects yX1_lowestOf.cls yX1_lowestOf yX1_lowestOf ∈ gtbl := tg (tb_5 (List.mem_of_getElem? (i := 19) rfl)) rfl
theorem my_X1_lowestWithout : MYk yX1_lowestWithout cX1_lowestWithout 3 (some .int) 2 := ⟨tg (tb_6 (List.mem_of_getElem? (i := 217) rfl)) rfl, tg (tb_1 (List.mem_of_getElem? (i := 5) rfl)) rfl, ⟨by decide, by decide⟩, by decide +kernel, plainFor_of_name (by decide +kernel)⟩
theorem mi_X1_lowestWithout : Cond.instanceMethod yX1_lowestWithout ∈ gtbl := tg (tb_6 (List.mem_of_getElem? (i := 215) rfl)) rfl
theorem msel_X1_lowestWithout : Cond.selects yX1_lowestWithout.cls yX1_lowestWithout yX1_lowestWithout ∈ gtbl := tg (tb_6 (List.mem_of_getElem? (i := 216) rfl)) rfl
theorem my_X1_mildestOf : MYk yX1_mildestOf cX1_mildestOf 2 (some .int) 1 := ⟨tg (tb_5 (List.mem_of_getElem? (i := 90) rfl)) rfl, tg (tb_1 (List.mem_of_getElem? (i := 5) rfl)) rfl, ⟨by decide, by decide⟩, by decide +kernel, plainFor_of_name (by decide +kernel)⟩
theorem mi_X1_mildestOf : Cond.instanceMethod yX1_mildestOf ∈ gtbl := tg (tb_5 (List.mem_of_getElem? (i := 88) rfl)) rfl
theorem msel_X1_mildestOf : Cond.selects yX1_mildestOf.cls yX1_mildestOf yX1_mildestOf ∈ gtbl := tg (tb_5 (List.mem_of_getElem? (i := 89) rfl)) rfl
theorem my_X1_prepare : MYk yX1_prepare cX1_prepare 1 none 0 := ⟨tg (tb_4 (List.mem_of_getElem? (i := 130) rfl)) rfl, tg (tb_1 (List.mem_of_getElem? (i := 5) rfl)) rfl, ⟨by decide, by decide⟩, by decide +kernel, plainFor_of_name (by decide +kernel)⟩
theorem mi_X1_prepare : Cond.instanceMethod yX1_prepare ∈ gtbl := tg (tb_4 (List.mem_of_getElem? (i := 128) rfl)) rfl
theorem msel_X1_prepare : Cond.selects yX1_prepare.cls yX1_prepare yX1_prepare ∈ gtbl := tg (tb_4 (List.mem_of_getElem? (i := 129) rfl)) rfl
theorem my_X1_putInOrder : MYk yX1_putInOrder cX1_putInOrder 6 none 1 := ⟨tg (tb_6 (List.mem_of_getElem? (i := 9) rfl)) rfl, tg (tb_1 (List.mem_of_getElem? (i := 5) rfl)) rfl, ⟨by decide, by decide⟩, by decide +kernel, plainFor_of_name (by decide +kernel)⟩
theorem mi_X1_putInOrder : Cond.instanceMethod yX1_putInOrder ∈ gtbl := tg (tb_6 (List.mem_of_getElem? (i := 8) rfl)) rfl
theorem msel_X1_putInOrder : Cond.selects yX1_putInOrder.cls yX1_putInOrder yX1_putInOrder ∈ gtbl := tg (List.mem_append_left _ (List.mem_map.mpr ⟨(⟨"SpanValues$Costs", "putInOrder", "(I)V"⟩, _), (List.mem_append_right _ (List.mem_append_right _ (List.mem_append_left _ (List.mem_of_getElem? (i := 14) rfl))) : _ ∈ lw_privs), rfl⟩)) rfl
theorem my_X1_relax : MYk yX1_relax cX1_relax 11 (some .boolean) 4 := ⟨tg (tb_4 (List.mem_of_getElem? (i := 195) rfl)) rfl, tg (tb_1 (List.mem_of_getElem? (i := 5) rfl)) rfl, ⟨by decide, by decide⟩, by decide +kernel, plainFor_of_name (by decide +kernel)⟩
theorem mi_X1_relax : Cond.instanceMethod yX1_relax ∈ gtbl := tg (tb_4 (List.mem_of_getElem? (i := 194) rfl)) rfl
theorem msel_X1_relax : Cond.selects yX1_relax.cls yX1_relax yX1_relax ∈ gtbl := tg (List.mem_append_left _ (List.mem_map.mpr ⟨(⟨"SpanValues$Costs", "relax", "([IIIZ)Z"⟩, _), (List.mem_append_right _ (List.mem_append_left _ (List.mem_of_getElem? (i := 8) rfl)) : _ ∈ lw_privs), rfl⟩)) rfl
theorem my_X2_addTargets : MYk yX2_addTargets cX2_addTargets 6 none 2 := ⟨tg (tb_5 (List.mem_of_getElem? (i := 77) rfl)) rfl, tg (tb_1 (List.mem_of_getElem? (i := 6) rfl)) rfl, ⟨by decide, by decide⟩, by decide +kernel, plainFor_of_name (by decide +kernel)⟩
theorem mi_X2_addTargets : Cond.instanceMethod yX2_addTargets ∈ gtbl := tg (tb_5 (List.mem_of_getElem? (i := 76) rfl)) rfl
theorem msel_X2_addTargets : Cond.selects yX2_addTargets.cls yX2_addTargets yX2_addTargets ∈ gtbl := tg (List.mem_append_left _ (List.mem_map.mpr ⟨(⟨"SpanValues$Facts", "addTargets", "(II)V"⟩, _), (List.mem_append_right _ (List.mem_append_left _ (List.mem_of_getElem? (i := 14) rfl)) : _ ∈ lw_privs), rfl⟩)) rfl
theorem my_X2_countCases : MYk yX2_countCases cX2_countCases 9 (some .long) 1 := ⟨tg (tb_5 (List.mem_of_getElem? (i := 42) rfl)) rfl, tg (tb_1 (List.mem_of_getElem? (i := 6) rfl)) rfl, ⟨by decide, by decide⟩, by decide +kernel, plainFor_of_name (by decide +kernel)⟩
theorem mi_X2_countCases : Cond.instanceMethod yX2_countCases ∈ gtbl := tg (tb_5 (List.mem_of_getElem? (i := 41) rfl)) rfl
theorem msel_X2_countCases : Cond.selects yX2_countCases.cls yX2_countCases yX2_countCases ∈ gtbl := tg (List.mem_append_left _ (List.mem_map.mpr ⟨(⟨"SpanValues$Facts", "countCases", "(I)J"⟩, _), (List.mem_append_right _ (List.mem_append_left _ (List.mem_of_getElem? (i := 11) rfl)) : _ ∈ lw_privs), rfl⟩)) rfl
theorem my_X2_countSpan : MYk yX2_countSpan cX2_countSpan 5 none 1 := ⟨tg (tb_5 (List.mem_of_getElem? (i := 38) rfl)) rfl, tg (tb_1 (List.mem_of_getElem? (i := 6) rfl)) rfl, ⟨by decide, by decide⟩, by decide +kernel, plainFor_of_name (by decide +kernel)⟩
theorem mi_X2_countSpan : Cond.instanceMethod yX2_countSpan ∈ gtbl := tg (tb_5 (List.mem_of_getElem? (i := 37) rfl)) rfl
theorem msel_X2_countSpan : Cond.selects yX2_countSpan.cls yX2_countSpan yX2_countSpan ∈ gtbl := tg (List.mem_append_left _ (List.mem_map.mpr ⟨(⟨"SpanValues$Facts", "countSpan", "(I)V"⟩, _), (List.mem_append_right _ (List.mem_append_left _ (List.mem_of_getElem? (i := 10) rfl)) : _ ∈ lw_privs), rfl⟩)) rfl
theorem my_X2_endlessProduct : MYk yX2_endlessProduct cX2_endlessProduct 4 (some .long) 2 := ⟨tg (tb_5 (List.mem_of_getElem? (i := 52) rfl)) rfl, tg (tb_1 (List.mem_of_getElem? (i := 6) rfl)) rfl, ⟨by decide, by decide⟩, by decide +kernel, plainFor_of_name (by decide +kernel)⟩
theorem ms_X2_endlessProduct : Cond.static yX2_endlessProduct ∈ gtbl := tg (tb_5 (List.mem_of_getElem? (i := 51) rfl)) rfl
theorem my_X2_endlessSum : MYk yX2_endlessSum cX2_endlessSum 4 (some .long) 2 := ⟨tg (tb_5 (List.mem_of_getElem? (i := 61) rfl)) rfl, tg (tb_1 (List.mem_of_getElem? (i := 6) rfl)) rfl, ⟨by decide, by decide⟩, by decide +kernel, plainFor_of_name (by decide +kernel)⟩
theorem ms_X2_endlessSum : Cond.static yX2_endlessSum ∈ gtbl := tg (tb_5 (List.mem_of_getElem? (i := 60) rfl)) rfl
theorem my_X2_forget : MYk yX2_forget cX2_forget 1 none 0 := ⟨tg (tb_4 (List.mem_of_getElem? (i := 61) rfl)) rfl, tg (tb_1 (List.mem_of_getElem? (i := 6) rfl)) rfl, ⟨by decide, by decide⟩, by decide +kernel, plainFor_of_name (by decide +kernel)⟩
theorem mi_X2_forget : Cond.instanceMethod yX2_forget ∈ gtbl := tg (tb_4 (List.mem_of_getElem? (i := 59) rfl)) rfl
theorem msel_X2_forget : Cond.selects yX2_forget.cls yX2_forget yX2_forget ∈ gtbl := tg (tb_4 (List.mem_of_getElem? (i := 60) rfl)) rfl
theorem my_X2_gather : MYk yX2_gather cX2_gather 7 none 2 := ⟨tg (tb_5 (List.mem_of_getElem? (i := 102) rfl)) rfl, tg (tb_1 (List.mem_of_getElem? (i := 6) rfl)) rfl, ⟨by decide, by decide⟩, by decide +kernel, plainFor_of_name (by decide +kernel)⟩
theorem mi_X2_gather : Cond.instanceMethod yX2_gather ∈ gtbl := tg (tb_5 (List.mem_of_getElem? (i := 101) rfl)) rfl
theorem msel_X2_gather : Cond.selects yX2_gather.cls yX2_gather yX2_gather ∈ gtbl := tg (List.mem_append_left _ (List.mem_map.mpr ⟨(⟨"SpanValues$Facts", "gather", "([JZ)V"⟩, _), (List.mem_append_right _ (List.mem_append_left _ (List.mem_of_getElem? (i := 15) rfl)) : _ ∈ lw_privs), rfl⟩)) rfl
theorem my_X2_gatherCases : MYk yX2_gatherCases cX2_gatherCases 9 (some .long) 3 := ⟨tg (tb_5 (List.mem_of_getElem? (i := 106) rfl)) rfl, tg (tb_1 (List.mem_of_getElem? (i := 6) rfl)) rfl, ⟨by decide, by decide⟩, by decide +kernel, plainFor_of_name (by decide +kernel)⟩
theorem mi_X2_gatherCases : Cond.instanceMethod yX2_gatherCases ∈ gtbl := tg (tb_5 (List.mem_of_getElem? (i := 105) rfl)) rfl
theorem msel_X2_gatherCases : Cond.selects yX2_gatherCases.cls yX2_gatherCases yX2_gatherCases ∈ gtbl := tg (List.mem_append_left _ (List.mem_map.mpr ⟨(⟨"SpanValues$Facts", "gatherCases", "([JIZ)J"⟩, _), (List.mem_append_right _ (List.mem_append_right _ (List.mem_append_left _ (List.mem_of_getElem? (i := 0) rfl))) : _ ∈ lw_privs), rfl⟩)) rfl
theorem my_X2_gatherUnaries : MYk yX2_gatherUnaries cX2_gatherUnaries 13 (some .boolean) 3 := ⟨tg (tb_5 (List.mem_of_getElem? (i := 111) rfl)) rfl, tg (tb_1 (List.mem_of_getElem? (i := 6) rfl)) rfl, ⟨by decide, by decide⟩, by decide +kernel, plainFor_of_name (by decide +kernel)⟩
theorem mi_X2_gatherUnaries : Cond.instanceMethod yX2_gatherUnaries ∈ gtbl := tg (tb_5 (List.mem_of_getElem? (i := 110) rfl)) rfl
theorem msel_X2_gatherUnaries : Cond.selects yX2_gatherUnaries.cls yX2_gatherUnaries yX2_gatherUnaries ∈ gtbl := tg (List.mem_append_left _ (List.mem_map.mpr ⟨(⟨"SpanValues$Facts", "gatherUnaries", "([JIZ)Z"⟩, _), (List.mem_append_right _ (List.mem_append_right _ (List.mem_append_left _ (List.mem_of_getElem? (i := 1) rfl))) : _ ∈ lw_privs), rfl⟩)) rfl
theorem my_X2_inEach : MYk yX2_inEach cX2_inEach 2 (some .long) 1 := ⟨tg (tb_5 (List.mem_of_getElem? (i := 115) rfl)) rfl, tg (tb_1 (List.mem_of_getElem? (i := 6) rfl)) rfl, ⟨by decide, by decide⟩, by decide +kernel, plainFor_of_name (by decide +kernel)⟩
theorem mi_X2_inEach : Cond.instanceMethod yX2_inEach ∈ gtbl := tg (tb_5 (List.mem_of_getElem? (i := 113) rfl)) rfl
theorem msel_X2_inEach : Cond.selects yX2_inEach.cls yX2_inEach yX2_inEach ∈ gtbl := tg (tb_5 (List.mem_of_getElem? (i := 114) rfl)) rfl
theorem my_X2_inSome : MYk yX2_inSome cX2_inSome 2 (some .long) 1 := ⟨tg (tb_5 (List.mem_of_getElem? (i := 98) rfl)) rfl, tg (tb_1 (List.mem_of_getElem? (i := 6) rfl)) rfl, ⟨by decide, by decide⟩, by decide +kernel, plainFor_of_name (by decide +kernel)⟩
theorem mi_X2_inSome : Cond.instanceMethod yX2_inSome ∈ gtbl := tg (tb_5 (List.mem_of_getElem? (i := 96) rfl)) rfl
theorem msel_X2_inSome : Cond.selects yX2_inSome.cls yX2_inSome yX2_inSome ∈ gtbl := tg (tb_5 (List.mem_of_getElem? (i := 97) rfl)) rfl
theorem my_X2_labelsThatGoOn : MYk yX2_labelsThatGoOn cX2_labelsThatGoOn 4 (some .int) 1 := ⟨tg (tb_5 (List.mem_of_getElem? (i := 68) rfl)) rfl, tg (tb_1 (List.mem_of_getElem? (i := 6) rfl)) rfl, ⟨by decide, by decide⟩, by decide +kernel, plainFor_of_name (by decide +kernel)⟩
theorem mi_X2_labelsThatGoOn : Cond.instanceMethod yX2_labelsThatGoOn ∈ gtbl := tg (tb_5 (List.mem_of_getElem? (i := 67) rfl)) rfl
theorem msel_X2_labelsThatGoOn : Cond.selects yX2_labelsThatGoOn.cls yX2_labelsThatGoOn yX2_labelsThatGoOn ∈ gtbl := tg (List.mem_append_left _ (List.mem_map.mpr ⟨(⟨"SpanValues$Facts", "labelsThatGoOn", "(I)I"⟩, _), (List.mem_append_right _ (List.mem_append_left _ (List.mem_of_getElem? (i := 12) rfl)) : _ ∈ lw_privs), rfl⟩)) rfl
theorem my_X2_targets : MYk yX2_targets cX2_targets 6 (some .int) 2 := ⟨tg (tb_5 (List.mem_of_getElem? (i := 72) rfl)) rfl, tg (tb_1 (List.mem_of_getElem? (i := 6) rfl)) rfl, ⟨by decide, by decide⟩, by decide +kernel, plainFor_of_name (by decide +kernel)⟩
theorem mi_X2_targets : Cond.instanceMethod yX2_targets ∈ gtbl := tg (tb_5 (List.mem_of_getElem? (i := 71) rfl)) rfl
theorem msel_X2_targets : Cond.selects yX2_targets.cls yX2_targets yX2_targets ∈ gtbl := tg (List.mem_append_left _ (List.mem_map.mpr ⟨(⟨"SpanValues$Facts", "targets", "(II)I"⟩, _), (List.mem_append_right _ (List.mem_append_left _ (List.mem_of_getElem? (i := 13) rfl)) : _ ∈ lw_privs), rfl⟩)) rfl
theorem my_X2_treesOf : MYk yX2_treesOf cX2_treesOf 3 (some .long) 1 := ⟨tg (tb_5 (List.mem_of_getElem? (i := 33) rfl)) rfl, tg (tb_1 (List.mem_of_getElem? (i := 6) rfl)) rfl, ⟨by decide, by decide⟩, by decide +kernel, plainFor_of_name (by decide +kernel)⟩
theorem mi_X2_treesOf : Cond.instanceMethod yX2_treesOf ∈ gtbl := tg (tb_5 (List.mem_of_getElem? (i := 31) rfl)) rfl
theorem msel_X2_treesOf : Cond.selects yX2_treesOf.cls yX2_treesOf yX2_treesOf ∈ gtbl := tg (tb_5 (List.mem_of_getElem? (i := 32) rfl)) rfl
theorem my_X3_append : MYk yX3_append cX3_append 9 none 4 := ⟨tg (tb_6 (List.mem_of_getElem? (i := 74) rfl)) rfl, tg (tb_1 (List.mem_of_getElem? (i := 9) rfl)) rfl, ⟨by decide, by decide⟩, by decide +kernel, plainFor_of_name (by decide +kernel)⟩
theorem mi_X3_append : Cond.instanceMethod yX3_append ∈ gtbl := tg (tb_6 (List.mem_of_getElem? (i := 73) rfl)) rfl
theorem msel_X3_append : Cond.selects yX3_append.cls yX3_append yX3_append ∈ gtbl := tg (List.mem_append_left _ (List.mem_map.mpr ⟨(⟨"SpanValues$Forest", "append", "(IIII)V"⟩, _), (List.mem_append_right _ (List.mem_append_right _ (List.mem_append_right _ (List.mem_append_left _ (List.mem_of_getElem? (i := 7) rfl)))) : _ ∈ lw_privs), rfl⟩)) rfl
theorem my_X3_caseOfRule : MYk yX3_caseOfRule cX3_caseOfRule 4 (some .int) 2 := ⟨tg (tb_6 (List.mem_of_getElem? (i := 41) rfl)) rfl, tg (tb_1 (List.mem_of_getElem? (i := 9) rfl)) rfl, ⟨by decide, by decide⟩, by decide +kernel, plainFor_of_name (by decide +kernel)⟩
theorem mi_X3_caseOfRule : Cond.instanceMethod yX3_caseOfRule ∈ gtbl := tg (tb_6 (List.mem_of_getElem? (i := 40) rfl)) rfl
theorem msel_X3_caseOfRule : Cond.selects yX3_caseOfRule.cls yX3_caseOfRule yX3_caseOfRule ∈ gtbl := tg (List.mem_append_left _ (List.mem_map.mpr ⟨(⟨"SpanValues$Forest", "caseOfRule", "(II)I"⟩, _), (List.mem_append_right _ (List.mem_append_right _ (List.mem_append_right _ (List.mem_append_left _ (List.mem_of_getElem? (i := 0) rfl)))) : _ ∈ lw_privs), rfl⟩)) rfl
theorem my_X3_findHead : MYk yX3_findHead cX3_findHead 9 none 2 := ⟨tg (tb_6 (List.mem_of_getElem? (i := 82) rfl)) rfl, tg (tb_1 (List.mem_of_getElem? (i := 9) rfl)) rfl, ⟨by decide, by decide⟩, by decide +kernel, plainFor_of_name (by decide +kernel)⟩
theorem mi_X3_findHead : Cond.instanceMethod yX3_findHead ∈ gtbl := tg (tb_6 (List.mem_of_getElem? (i := 81) rfl)) rfl
theorem msel_X3_findHead : Cond.selects yX3_findHead.cls yX3_findHead yX3_findHead ∈ gtbl := tg (List.mem_append_left _ (List.mem_map.mpr ⟨(⟨"SpanValues$Forest", "findHead", "(II)V"⟩, _), (List.mem_append_right _ (List.mem_append_right _ (List.mem_append_right _ (List.mem_append_left _ (List.mem_of_getElem? (i := 9) rfl)))) : _ ∈ lw_privs), rfl⟩)) rfl
theorem my_X3_forget : MYk yX3_forget cX3_forget 2 none 0 := ⟨tg (tb_4 (List.mem_of_getElem? (i := 81) rfl)) rfl, tg (tb_1 (List.mem_of_getElem? (i := 9) rfl)) rfl, ⟨by decide, by decide⟩, by decide +kernel, plainFor_of_name (by decide +kernel)⟩
theorem mi_X3_forget : Cond.instanceMethod yX3_forget ∈ gtbl := tg (tb_4 (List.mem_of_getElem? (i := 79) rfl)) rfl
theorem msel_X3_forget : Cond.selects yX3_forget.cls yX3_forget yX3_forget ∈ gtbl := tg (tb_4 (List.mem_of_getElem? (i := 80) rfl)) rfl
theorem my_X3_gatherBase : MYk yX3_gatherBase cX3_gatherBase 4 none 2 := ⟨tg (tb_6 (List.mem_of_getElem? (i := 47) rfl)) rfl, tg (tb_1 (List.mem_of_getElem? (i := 9) rfl)) rfl, ⟨by decide, by decide⟩, by decide +kernel, plainFor_of_name (by decide +kernel)⟩
theorem mi_X3_gatherBase : Cond.instanceMethod yX3_gatherBase ∈ gtbl := tg (tb_6 (List.mem_of_getElem? (i := 46) rfl)) rfl
theorem msel_X3_gatherBase : Cond.selects yX3_gatherBase.cls yX3_gatherBase yX3_gatherBase ∈ gtbl := tg (List.mem_append_left _ (List.mem_map.mpr ⟨(⟨"SpanValues$Forest", "gatherBase", "(II)V"⟩, _), (List.mem_append_right _ (List.mem_append_right _ (List.mem_append_right _ (List.mem_append_left _ (List.mem_of_getElem? (i := 1) rfl)))) : _ ∈ lw_privs), rfl⟩)) rfl
theorem my_X3_gatherPairs : MYk yX3_gatherPairs cX3_gatherPairs 12 none 2 := ⟨tg (tb_6 (List.mem_of_getElem? (i := 53) rfl)) rfl, tg (tb_1 (List.mem_of_getElem? (i := 9) rfl)) rfl, ⟨by decide, by decide⟩, by decide +kernel, plainFor_of_name (by decide +kernel)⟩
theorem mi_X3_gatherPairs : Cond.instanceMethod yX3_gatherPairs ∈ gtbl := tg (tb_6 (List.mem_of_getElem? (i := 52) rfl)) rfl
theorem msel_X3_gatherPairs : Cond.selects yX3_gatherPairs.cls yX3_gatherPairs yX3_gatherPairs ∈ gtbl := tg (List.mem_append_left _ (List.mem_map.mpr ⟨(⟨"SpanValues$Forest", "gatherPairs", "(II)V"⟩, _), (List.mem_append_right _ (List.mem_append_right _ (List.mem_append_right _ (List.mem_append_left _ (List.mem_of_getElem? (i := 2) rfl)))) : _ ∈ lw_privs), rfl⟩)) rfl
theorem my_X3_growSpan : MYk yX3_growSpan cX3_growSpan 6 none 1 := ⟨tg (tb_6 (List.mem_of_getElem? (i := 37) rfl)) rfl, tg (tb_1 (List.mem_of_getElem? (i := 9) rfl)) rfl, ⟨by decide, by decide⟩, by decide +kernel, plainFor_of_name (by decide +kernel)⟩
theorem mi_X3_growSpan : Cond.instanceMethod yX3_growSpan ∈ gtbl := tg (tb_6 (List.mem_of_getElem? (i := 36) rfl)) rfl
theorem msel_X3_growSpan : Cond.selects yX3_growSpan.cls yX3_growSpan yX3_growSpan ∈ gtbl := tg (List.mem_append_left _ (List.mem_map.mpr ⟨(⟨"SpanValues$Forest", "growSpan", "(I)V"⟩, _), (List.mem_append_right _ (List.mem_append_right _ (List.mem_append_left _ (List.mem_of_getElem? (i := 15) rfl))) : _ ∈ lw_privs), rfl⟩)) rfl
theorem my_X3_isSmaller : MYk yX3_isSmaller cX3_isSmaller 7 (some .boolean) 4 := ⟨tg (tb_6 (List.mem_of_getElem? (i := 61) rfl)) rfl, tg (tb_1 (List.mem_of_getElem? (i := 9) rfl)) rfl, ⟨by decide, by decide⟩, by decide +kernel, plainFor_of_name (by decide +kernel)⟩
theorem mi_X3_isSmaller : Cond.instanceMethod yX3_isSmaller ∈ gtbl := tg (tb_6 (List.mem_of_getElem? (i := 60) rfl)) rfl
theorem msel_X3_isSmaller : Cond.selects yX3_isSmaller.cls yX3_isSmaller yX3_isSmaller ∈ gtbl := tg (List.mem_append_left _ (List.mem_map.mpr ⟨(⟨"SpanValues$Forest", "isSmaller", "(IIII)Z"⟩, _), (List.mem_append_right _ (List.mem_append_right _ (List.mem_append_right _ (List.mem_append_left _ (List.mem_of_getElem? (i := 4) rfl)))) : _ ∈ lw_privs), rfl⟩)) rfl
theorem my_X3_leftTree : MYk yX3_leftTree cX3_leftTree 3 (some .int) 1 := ⟨tg (tb_6 (List.mem_of_getElem? (i := 107) rfl)) rfl, tg (tb_1 (List.mem_of_getElem? (i := 9) rfl)) rfl, ⟨by decide, by decide⟩, by decide +kernel, plainFor_of_name (by decide +kernel)⟩
theorem mi_X3_leftTree : Cond.instanceMethod yX3_leftTree ∈ gtbl := tg (tb_6 (List.mem_of_getElem? (i := 105) rfl)) rfl
theorem msel_X3_leftTree : Cond.selects yX3_leftTree.cls yX3_leftTree yX3_leftTree ∈ gtbl := tg (tb_6 (List.mem_of_getElem? (i := 106) rfl)) rfl
theorem my_X3_putInBase : MYk yX3_putInBase cX3_putInBase 9 (some .boolean) 4 := ⟨tg (tb_6 (List.mem_of_getElem? (i := 57) rfl)) rfl, tg (tb_1 (List.mem_of_getElem? (i := 9) rfl)) rfl, ⟨by decide, by decide⟩, by decide +kernel, plainFor_of_name (by decide +kernel)⟩
theorem mi_X3_putInBase : Cond.instanceMethod yX3_putInBase ∈ gtbl := tg (tb_6 (List.mem_of_getElem? (i := 56) rfl)) rfl
theorem msel_X3_putInBase : Cond.selects yX3_putInBase.cls yX3_putInBase yX3_putInBase ∈ gtbl := tg (List.mem_append_left _ (List.mem_map.mpr ⟨(⟨"SpanValues$Forest", "putInBase", "(IIII)Z"⟩, _), (List.mem_append_right _ (List.mem_append_right _ (List.mem_append_right _ (List.mem_append_left _ (List.mem_of_getElem? (i := 3) rfl)))) : _ ∈ lw_privs), rfl⟩)) rfl
theorem my_X3_rightTree : MYk yX3_rightTree cX3_rightTree 3 (some .int) 1 := ⟨tg (tb_6 (List.mem_of_getElem? (i := 99) rfl)) rfl, tg (tb_1 (List.mem_of_getElem? (i := 9) rfl)) rfl, ⟨by decide, by decide⟩, by decide +kernel, plainFor_of_name (by decide +kernel)⟩
theorem mi_X3_rightTree : Cond.instanceMethod yX3_rightTree ∈ gtbl := tg (tb_6 (List.mem_of_getElem? (i := 97) rfl)) rfl
theorem msel_X3_rightTree : Cond.selects yX3_rightTree.cls yX3_rightTree yX3_rightTree ∈ gtbl := tg (tb_6 (List.mem_of_getElem? (i := 98) rfl)) rfl
theorem my_X3_takeAllOfBase : MYk yX3_takeAllOfBase cX3_takeAllOfBase 4 none 2 := ⟨tg (tb_6 (List.mem_of_getElem? (i := 66) rfl)) rfl, tg (tb_1 (List.mem_of_getElem? (i := 9) rfl)) rfl, ⟨by decide, by decide⟩, by decide +kernel, plainFor_of_name (by decide +kernel)⟩
theorem mi_X3_takeAllOfBase : Cond.instanceMethod yX3_takeAllOfBase ∈ gtbl := tg (tb_6 (List.mem_of_getElem? (i := 65) rfl)) rfl
theorem msel_X3_takeAllOfBase : Cond.selects yX3_takeAllOfBase.cls yX3_takeAllOfBase yX3_takeAllOfBase ∈ gtbl := tg (List.mem_append_left _ (List.mem_map.mpr ⟨(⟨"SpanValues$Forest", "takeAllOfBase", "(II)V"⟩, _), (List.mem_append_right _ (List.mem_append_right _ (List.mem_append_right _ (List.mem_append_left _ (List.mem_of_getElem? (i := 5) rfl)))) : _ ∈ lw_privs), rfl⟩)) rfl
theorem my_X3_takeLeast : MYk yX3_takeLeast cX3_takeLeast 7 (some .boolean) 2 := ⟨tg (tb_6 (List.mem_of_getElem? (i := 78) rfl)) rfl, tg (tb_1 (List.mem_of_getElem? (i := 9) rfl)) rfl, ⟨by decide, by decide⟩, by decide +kernel, plainFor_of_name (by decide +kernel)⟩
theorem mi_X3_takeLeast : Cond.instanceMethod yX3_takeLeast ∈ gtbl := tg (tb_6 (List.mem_of_getElem? (i := 77) rfl)) rfl
theorem msel_X3_takeLeast : Cond.selects yX3_takeLeast.cls yX3_takeLeast yX3_takeLeast ∈ gtbl := tg (List.mem_append_left _ (List.mem_map.mpr ⟨(⟨"SpanValues$Forest", "takeLeast", "(II)Z"⟩, _), (List.mem_append_right _ (List.mem_append_right _ (List.mem_append_right _ (List.mem_append_left _ (List.mem_of_getElem? (i := 8) rfl)))) : _ ∈ lw_privs), rfl⟩)) rfl
theorem my_X3_takeOfBase : MYk yX3_takeOfBase cX3_takeOfBase 4 none 2 := ⟨tg (tb_6 (List.mem_of_getElem? (i := 70) rfl)) rfl, tg (tb_1 (List.mem_of_getElem? (i := 9) rfl)) rfl, ⟨by decide, by decide⟩, by decide +kernel, plainFor_of_name (by decide +kernel)⟩
theorem mi_X3_takeOfBase : Cond.instanceMethod yX3_takeOfBase ∈ gtbl := tg (tb_6 (List.mem_of_getElem? (i := 69) rfl)) rfl
theorem msel_X3_takeOfBase : Cond.selects yX3_takeOfBase.cls yX3_takeOfBase yX3_takeOfBase ∈ gtbl := tg (List.mem_append_left _ (List.mem_map.mpr ⟨(⟨"SpanValues$Forest", "takeOfBase", "(II)V"⟩, _), (List.mem_append_right _ (List.mem_append_right _ (List.mem_append_right _ (List.mem_append_left _ (List.mem_of_getElem? (i := 6) rfl)))) : _ ∈ lw_privs), rfl⟩)) rfl
theorem my_X3_treeOf : MYk yX3_treeOf cX3_treeOf 5 (some .int) 2 := ⟨tg (tb_6 (List.mem_of_getElem? (i := 28) rfl)) rfl, tg (tb_1 (List.mem_of_getElem? (i := 9) rfl)) rfl, ⟨by decide, by decide⟩, by decide +kernel, plainFor_of_name (by decide +kernel)⟩
theorem mi_X3_treeOf : Cond.instanceMethod yX3_treeOf ∈ gtbl := tg (tb_6 (List.mem_of_getElem? (i := 26) rfl)) rfl
theorem msel_X3_treeOf : Cond.selects yX3_treeOf.cls yX3_treeOf yX3_treeOf ∈ gtbl := tg (tb_6 (List.mem_of_getElem? (i := 27) rfl)) rfl
theorem my_X4_clear : MYk yX4_clear cX4_clear 2 none 0 := ⟨tg (tb_1 (List.mem_of_getElem? (i := 45) rfl)) rfl, tg (tb_1 (List.mem_of_getElem? (i := 3) rfl)) rfl, ⟨by decide, by decide⟩, by decide +kernel, plainFor_of_name (by decide +kernel)⟩
theorem mi_X4_clear : Cond.instanceMethod yX4_clear ∈ gtbl := tg (tb_1 (List.mem_of_getElem? (i := 43) rfl)) rfl
theorem msel_X4_clear : Cond.selects yX4_clear.cls yX4_clear yX4_clear ∈ gtbl := tg (tb_1 (List.mem_of_getElem? (i := 44) rfl)) rfl
theorem my_X4_fruitfulLabels : MYk yX4_fruitfulLabels cX4_fruitfulLabels 4 (some .int) 0 := ⟨tg (tb_7 (List.mem_of_getElem? (i := 51) rfl)) rfl, tg (tb_1 (List.mem_of_getElem? (i := 3) rfl)) rfl, ⟨by decide, by decide⟩, by decide +kernel, plainFor_of_name (by decide +kernel)⟩
theorem mi_X4_fruitfulLabels : Cond.instanceMethod yX4_fruitfulLabels ∈ gtbl := tg (tb_7 (List.mem_of_getElem? (i := 50) rfl)) rfl
theorem msel_X4_fruitfulLabels : Cond.selects yX4_fruitfulLabels.cls yX4_fruitfulLabels yX4_fruitfulLabels ∈ gtbl := tg (List.mem_append_left _ (List.mem_map.mpr ⟨(⟨"SpanValues$Grammar", "fruitfulLabels", "()I"⟩, _), (List.mem_append_right _ (List.mem_append_right _ (List.mem_append_right _ (List.mem_append_right _ (List.mem_append_left _ (List.mem_of_getElem? (i := 12) rfl))))) : _ ∈ lw_privs), rfl⟩)) rfl
theorem my_X4_isElement : MYk yX4_isElement cX4_isElement 2 (some .boolean) 1 := ⟨tg (tb_4 (List.mem_of_getElem? (i := 223) rfl)) rfl, tg (tb_1 (List.mem_of_getElem? (i := 3) rfl)) rfl, ⟨by decide, by decide⟩, by decide +kernel, plainFor_of_name (by decide +kernel)⟩
theorem mi_X4_isElement : Cond.instanceMethod yX4_isElement ∈ gtbl := tg (tb_4 (List.mem_of_getElem? (i := 221) rfl)) rfl
theorem msel_X4_isElement : Cond.selects yX4_isElement.cls yX4_isElement yX4_isElement ∈ gtbl := tg (tb_4 (List.mem_of_getElem? (i := 222) rfl)) rfl
theorem my_X4_isUnary : MYk yX4_isUnary cX4_isUnary 2 (some .boolean) 1 := ⟨tg (tb_4 (List.mem_of_getElem? (i := 146) rfl)) rfl, tg (tb_1 (List.mem_of_getElem? (i := 3) rfl)) rfl, ⟨by decide, by decide⟩, by decide +kernel, plainFor_of_name (by decide +kernel)⟩
theorem mi_X4_isUnary : Cond.instanceMethod yX4_isUnary ∈ gtbl := tg (tb_4 (List.mem_of_getElem? (i := 144) rfl)) rfl
theorem msel_X4_isUnary : Cond.selects yX4_isUnary.cls yX4_isUnary yX4_isUnary ∈ gtbl := tg (tb_4 (List.mem_of_getElem? (i := 145) rfl)) rfl
theorem my_X4_knows : MYk yX4_knows cX4_knows 2 (some .boolean) 1 := ⟨tg (tb_4 (List.mem_of_getElem? (i := 215) rfl)) rfl, tg (tb_1 (List.mem_of_getElem? (i := 3) rfl)) rfl, ⟨by decide, by decide⟩, by decide +kernel, plainFor_of_name (by decide +kernel)⟩
theorem mi_X4_knows : Cond.instanceMethod yX4_knows ∈ gtbl := tg (tb_4 (List.mem_of_getElem? (i := 213) rfl)) rfl
theorem msel_X4_knows : Cond.selects yX4_knows.cls yX4_knows yX4_knows ∈ gtbl := tg (tb_4 (List.mem_of_getElem? (i := 214) rfl)) rfl
theorem my_X4_labelBit : MYk yX4_labelBit cX4_labelBit 1 (some .int) 1 := ⟨tg (tb_7 (List.mem_of_getElem? (i := 58) rfl)) rfl, tg (tb_1 (List.mem_of_getElem? (i := 3) rfl)) rfl, ⟨by decide, by decide⟩, by decide +kernel, plainFor_of_name (by decide +kernel)⟩
theorem ms_X4_labelBit : Cond.static yX4_labelBit ∈ gtbl := tg (tb_7 (List.mem_of_getElem? (i := 57) rfl)) rfl
theorem my_X4_labelsOnRings : MYk yX4_labelsOnRings cX4_labelsOnRings 3 (some .int) 0 := ⟨tg (tb_7 (List.mem_of_getElem? (i := 38) rfl)) rfl, tg (tb_1 (List.mem_of_getElem? (i := 3) rfl)) rfl, ⟨by decide, by decide⟩, by decide +kernel, plainFor_of_name (by decide +kernel)⟩
theorem mi_X4_labelsOnRings : Cond.instanceMethod yX4_labelsOnRings ∈ gtbl := tg (tb_7 (List.mem_of_getElem? (i := 36) rfl)) rfl
theorem msel_X4_labelsOnRings : Cond.selects yX4_labelsOnRings.cls yX4_labelsOnRings yX4_labelsOnRings ∈ gtbl := tg (tb_7 (List.mem_of_getElem? (i := 37) rfl)) rfl
theorem my_X4_partsWithin : MYk yX4_partsWithin cX4_partsWithin 4 (some .boolean) 2 := ⟨tg (tb_7 (List.mem_of_getElem? (i := 55) rfl)) rfl, tg (tb_1 (List.mem_of_getElem? (i := 3) rfl)) rfl, ⟨by decide, by decide⟩, by decide +kernel, plainFor_of_name (by decide +kernel)⟩
theorem mi_X4_partsWithin : Cond.instanceMethod yX4_partsWithin ∈ gtbl := tg (tb_7 (List.mem_of_getElem? (i := 54) rfl)) rfl
theorem msel_X4_partsWithin : Cond.selects yX4_partsWithin.cls yX4_partsWithin yX4_partsWithin ∈ gtbl := tg (List.mem_append_left _ (List.mem_map.mpr ⟨(⟨"SpanValues$Grammar", "partsWithin", "(II)Z"⟩, _), (List.mem_append_right _ (List.mem_append_right _ (List.mem_append_right _ (List.mem_append_right _ (List.mem_append_left _ (List.mem_of_getElem? (i := 13) rfl))))) : _ ∈ lw_privs), rfl⟩)) rfl
theorem my_X4_plus : MYk yX4_plus cX4_plus 3 (some .int) 2 := ⟨tg (tb_4 (List.mem_of_getElem? (i := 227) rfl)) rfl, tg (tb_1 (List.mem_of_getElem? (i := 3) rfl)) rfl, ⟨by decide, by decide⟩, by decide +kernel, plainFor_of_name (by decide +kernel)⟩
theorem mi_X4_plus : Cond.instanceMethod yX4_plus ∈ gtbl := tg (tb_4 (List.mem_of_getElem? (i := 225) rfl)) rfl
theorem msel_X4_plus : Cond.selects yX4_plus.cls yX4_plus yX4_plus ∈ gtbl := tg (tb_4 (List.mem_of_getElem? (i := 226) rfl)) rfl
theorem my_X4_rulesAlive : MYk yX4_rulesAlive cX4_rulesAlive 7 (some .long) 0 := ⟨tg (tb_7 (List.mem_of_getElem? (i := 47) rfl)) rfl, tg (tb_1 (List.mem_of_getElem? (i := 3) rfl)) rfl, ⟨by decide, by decide⟩, by decide +kernel, plainFor_of_name (by decide +kernel)⟩
theorem mi_X4_rulesAlive : Cond.instanceMethod yX4_rulesAlive ∈ gtbl := tg (tb_7 (List.mem_of_getElem? (i := 45) rfl)) rfl
theorem msel_X4_rulesAlive : Cond.selects yX4_rulesAlive.cls yX4_rulesAlive yX4_rulesAlive ∈ gtbl := tg (tb_7 (List.mem_of_getElem? (i := 46) rfl)) rfl
theorem my_X4_rulesIn : MYk yX4_rulesIn cX4_rulesIn 3 (some .int) 0 := ⟨tg (tb_4 (List.mem_of_getElem? (i := 207) rfl)) rfl, tg (tb_1 (List.mem_of_getElem? (i := 3) rfl)) rfl, ⟨by decide, by decide⟩, by decide +kernel, plainFor_of_name (by decide +kernel)⟩
theorem mi_X4_rulesIn : Cond.instanceMethod yX4_rulesIn ∈ gtbl := tg (tb_4 (List.mem_of_getElem? (i := 205) rfl)) rfl
theorem msel_X4_rulesIn : Cond.selects yX4_rulesIn.cls yX4_rulesIn yX4_rulesIn ∈ gtbl := tg (tb_4 (List.mem_of_getElem? (i := 206) rfl)) rfl
theorem my_X4_start : MYk yX4_start cX4_start 1 (some .int) 0 := ⟨tg (tb_4 (List.mem_of_getElem? (i := 122) rfl)) rfl, tg (tb_1 (List.mem_of_getElem? (i := 3) rfl)) rfl, ⟨by decide, by decide⟩, by decide +kernel, plainFor_of_name (by decide +kernel)⟩
theorem mi_X4_start : Cond.instanceMethod yX4_start ∈ gtbl := tg (tb_4 (List.mem_of_getElem? (i := 120) rfl)) rfl
theorem msel_X4_start : Cond.selects yX4_start.cls yX4_start yX4_start ∈ gtbl := tg (tb_4 (List.mem_of_getElem? (i := 121) rfl)) rfl
theorem my_X4_take : MYk yX4_take cX4_take 3 none 1 := ⟨tg (tb_4 (List.mem_of_getElem? (i := 49) rfl)) rfl, tg (tb_1 (List.mem_of_getElem? (i := 3) rfl)) rfl, ⟨by decide, by decide⟩, by decide +kernel, plainFor_of_name (by decide +kernel)⟩
theorem mi_X4_take : Cond.instanceMethod yX4_take ∈ gtbl := tg (tb_4 (List.mem_of_getElem? (i := 47) rfl)) rfl
theorem msel_X4_take : Cond.selects yX4_take.cls yX4_take yX4_take ∈ gtbl := tg (tb_4 (List.mem_of_getElem? (i := 48) rfl)) rfl
theorem my_X4_times : MYk yX4_times cX4_times 3 (some .int) 2 := ⟨tg (tb_4 (List.mem_of_getElem? (i := 231) rfl)) rfl, tg (tb_1 (List.mem_of_getElem? (i := 3) rfl)) rfl, ⟨by decide, by decide⟩, by decide +kernel, plainFor_of_name (by decide +kernel)⟩
theorem mi_X4_times : Cond.instanceMethod yX4_times ∈ gtbl := tg (tb_4 (List.mem_of_getElem? (i := 229) rfl)) rfl
theorem msel_X4_times : Cond.selects yX4_times.cls yX4_times yX4_times ∈ gtbl := tg (tb_4 (List.mem_of_getElem? (i := 230) rfl)) rfl
theorem my_X5_choose : MYk yX5_choose cX5_choose 4 none 0 := ⟨tg (tb_7 (List.mem_of_getElem? (i := 26) rfl)) rfl, tg (tb_1 (List.mem_of_getElem? (i := 12) rfl)) rfl, ⟨by decide, by decide⟩, by decide +kernel, plainFor_of_name (by decide +kernel)⟩
theorem mi_X5_choose : Cond.instanceMethod yX5_choose ∈ gtbl := tg (tb_7 (List.mem_of_getElem? (i := 25) rfl)) rfl
theorem msel_X5_choose : Cond.selects yX5_choose.cls yX5_choose yX5_choose ∈ gtbl := tg (List.mem_append_left _ (List.mem_map.mpr ⟨(⟨"SpanValues$Mender", "choose", "()V"⟩, _), (List.mem_append_right _ (List.mem_append_right _ (List.mem_append_right _ (List.mem_append_right _ (List.mem_append_left _ (List.mem_of_getElem? (i := 11) rfl))))) : _ ∈ lw_privs), rfl⟩)) rfl
theorem my_X5_forget : MYk yX5_forget cX5_forget 1 none 0 := ⟨tg (tb_4 (List.mem_of_getElem? (i := 95) rfl)) rfl, tg (tb_1 (List.mem_of_getElem? (i := 12) rfl)) rfl, ⟨by decide, by decide⟩, by decide +kernel, plainFor_of_name (by decide +kernel)⟩
theorem mi_X5_forget : Cond.instanceMethod yX5_forget ∈ gtbl := tg (tb_4 (List.mem_of_getElem? (i := 93) rfl)) rfl
theorem msel_X5_forget : Cond.selects yX5_forget.cls yX5_forget yX5_forget ∈ gtbl := tg (tb_4 (List.mem_of_getElem? (i := 94) rfl)) rfl
theorem my_X5_goDown : MYk yX5_goDown cX5_goDown 6 none 1 := ⟨tg (tb_6 (List.mem_of_getElem? (i := 235) rfl)) rfl, tg (tb_1 (List.mem_of_getElem? (i := 12) rfl)) rfl, ⟨by decide, by decide⟩, by decide +kernel, plainFor_of_name (by decide +kernel)⟩
theorem mi_X5_goDown : Cond.instanceMethod yX5_goDown ∈ gtbl := tg (tb_6 (List.mem_of_getElem? (i := 234) rfl)) rfl
theorem msel_X5_goDown : Cond.selects yX5_goDown.cls yX5_goDown yX5_goDown ∈ gtbl := tg (List.mem_append_left _ (List.mem_map.mpr ⟨(⟨"SpanValues$Mender", "goDown", "(I)V"⟩, _), (List.mem_append_right _ (List.mem_append_right _ (List.mem_append_right _ (List.mem_append_right _ (List.mem_append_left _ (List.mem_of_getElem? (i := 5) rfl))))) : _ ∈ lw_privs), rfl⟩)) rfl
theorem my_X5_goToParts : MYk yX5_goToParts cX5_goToParts 9 none 1 := ⟨tg (tb_7 (List.mem_of_getElem? (i := 7) rfl)) rfl, tg (tb_1 (List.mem_of_getElem? (i := 12) rfl)) rfl, ⟨by decide, by decide⟩, by decide +kernel, plainFor_of_name (by decide +kernel)⟩
theorem mi_X5_goToParts : Cond.instanceMethod yX5_goToParts ∈ gtbl := tg (tb_7 (List.mem_of_getElem? (i := 6) rfl)) rfl
theorem msel_X5_goToParts : Cond.selects yX5_goToParts.cls yX5_goToParts yX5_goToParts ∈ gtbl := tg (List.mem_append_left _ (List.mem_map.mpr ⟨(⟨"SpanValues$Mender", "goToParts", "(I)V"⟩, _), (List.mem_append_right _ (List.mem_append_right _ (List.mem_append_right _ (List.mem_append_right _ (List.mem_append_left _ (List.mem_of_getElem? (i := 7) rfl))))) : _ ∈ lw_privs), rfl⟩)) rfl
theorem my_X5_improve : MYk yX5_improve cX5_improve 4 (some .boolean) 3 := ⟨tg (tb_7 (List.mem_of_getElem? (i := 2) rfl)) rfl, tg (tb_1 (List.mem_of_getElem? (i := 12) rfl)) rfl, ⟨by decide, by decide⟩, by decide +kernel, plainFor_of_name (by decide +kernel)⟩
theorem ms_X5_improve : Cond.static yX5_improve ∈ gtbl := tg (tb_7 (List.mem_of_getElem? (i := 1) rfl)) rfl
theorem my_X5_partCost : MYk yX5_partCost cX5_partCost 4 (some .int) 3 := ⟨tg (tb_7 (List.mem_of_getElem? (i := 21) rfl)) rfl, tg (tb_1 (List.mem_of_getElem? (i := 12) rfl)) rfl, ⟨by decide, by decide⟩, by decide +kernel, plainFor_of_name (by decide +kernel)⟩
theorem mi_X5_partCost : Cond.instanceMethod yX5_partCost ∈ gtbl := tg (tb_7 (List.mem_of_getElem? (i := 20) rfl)) rfl
theorem msel_X5_partCost : Cond.selects yX5_partCost.cls yX5_partCost yX5_partCost ∈ gtbl := tg (List.mem_append_left _ (List.mem_map.mpr ⟨(⟨"SpanValues$Mender", "partCost", "(III)I"⟩, _), (List.mem_append_right _ (List.mem_append_right _ (List.mem_append_right _ (List.mem_append_right _ (List.mem_append_left _ (List.mem_of_getElem? (i := 10) rfl))))) : _ ∈ lw_privs), rfl⟩)) rfl
theorem my_X5_prepare : MYk yX5_prepare cX5_prepare 4 none 1 := ⟨tg (tb_6 (List.mem_of_getElem? (i := 229) rfl)) rfl, tg (tb_1 (List.mem_of_getElem? (i := 12) rfl)) rfl, ⟨by decide, by decide⟩, by decide +kernel, plainFor_of_name (by decide +kernel)⟩
theorem mi_X5_prepare : Cond.instanceMethod yX5_prepare ∈ gtbl := tg (tb_6 (List.mem_of_getElem? (i := 227) rfl)) rfl
theorem msel_X5_prepare : Cond.selects yX5_prepare.cls yX5_prepare yX5_prepare ∈ gtbl := tg (tb_6 (List.mem_of_getElem? (i := 228) rfl)) rfl
theorem my_X5_relax : MYk yX5_relax cX5_relax 6 (some .boolean) 1 := ⟨tg (tb_6 (List.mem_of_getElem? (i := 239) rfl)) rfl, tg (tb_1 (List.mem_of_getElem? (i := 12) rfl)) rfl, ⟨by decide, by decide⟩, by decide +kernel, plainFor_of_name (by decide +kernel)⟩
theorem mi_X5_relax : Cond.instanceMethod yX5_relax ∈ gtbl := tg (tb_6 (List.mem_of_getElem? (i := 238) rfl)) rfl
theorem msel_X5_relax : Cond.selects yX5_relax.cls yX5_relax yX5_relax ∈ gtbl := tg (List.mem_append_left _ (List.mem_map.mpr ⟨(⟨"SpanValues$Mender", "relax", "(I)Z"⟩, _), (List.mem_append_right _ (List.mem_append_right _ (List.mem_append_right _ (List.mem_append_right _ (List.mem_append_left _ (List.mem_of_getElem? (i := 6) rfl))))) : _ ∈ lw_privs), rfl⟩)) rfl
theorem my_X5_tryLetter : MYk yX5_tryLetter cX5_tryLetter 5 none 4 := ⟨tg (tb_7 (List.mem_of_getElem? (i := 17) rfl)) rfl, tg (tb_1 (List.mem_of_getElem? (i := 12) rfl)) rfl, ⟨by decide, by decide⟩, by decide +kernel, plainFor_of_name (by decide +kernel)⟩
theorem mi_X5_tryLetter : Cond.instanceMethod yX5_tryLetter ∈ gtbl := tg (tb_7 (List.mem_of_getElem? (i := 16) rfl)) rfl
theorem msel_X5_tryLetter : Cond.selects yX5_tryLetter.cls yX5_tryLetter yX5_tryLetter ∈ gtbl := tg (List.mem_append_left _ (List.mem_map.mpr ⟨(⟨"SpanValues$Mender", "tryLetter", "(IIII)V"⟩, _), (List.mem_append_right _ (List.mem_append_right _ (List.mem_append_right _ (List.mem_append_right _ (List.mem_append_left _ (List.mem_of_getElem? (i := 9) rfl))))) : _ ∈ lw_privs), rfl⟩)) rfl
theorem my_X5_tryRule : MYk yX5_tryRule cX5_tryRule 8 none 2 := ⟨tg (tb_7 (List.mem_of_getElem? (i := 13) rfl)) rfl, tg (tb_1 (List.mem_of_getElem? (i := 12) rfl)) rfl, ⟨by decide, by decide⟩, by decide +kernel, plainFor_of_name (by decide +kernel)⟩
theorem mi_X5_tryRule : Cond.instanceMethod yX5_tryRule ∈ gtbl := tg (tb_7 (List.mem_of_getElem? (i := 12) rfl)) rfl
theorem msel_X5_tryRule : Cond.selects yX5_tryRule.cls yX5_tryRule yX5_tryRule ∈ gtbl := tg (List.mem_append_left _ (List.mem_map.mpr ⟨(⟨"SpanValues$Mender", "tryRule", "(II)V"⟩, _), (List.mem_append_right _ (List.mem_append_right _ (List.mem_append_right _ (List.mem_append_right _ (List.mem_append_left _ (List.mem_of_getElem? (i := 8) rfl))))) : _ ∈ lw_privs), rfl⟩)) rfl
theorem my_X6_advance : MYk yX6_advance cX6_advance 1 none 0 := ⟨tg (tb_3 (List.mem_of_getElem? (i := 173) rfl)) rfl, tg (tb_1 (List.mem_of_getElem? (i := 2) rfl)) rfl, ⟨by decide, by decide⟩, by decide +kernel, plainFor_of_name (by decide +kernel)⟩
theorem mi_X6_advance : Cond.instanceMethod yX6_advance ∈ gtbl := tg (tb_3 (List.mem_of_getElem? (i := 172) rfl)) rfl
theorem msel_X6_advance : Cond.selects yX6_advance.cls yX6_advance yX6_advance ∈ gtbl := tg (List.mem_append_left _ (List.mem_map.mpr ⟨(⟨"SpanValues$Reader", "advance", "()V"⟩, _), (List.mem_append_left _ (List.mem_of_getElem? (i := 1) rfl) : _ ∈ lw_privs), rfl⟩)) rfl
theorem my_X6_fail : MYk yX6_fail cX6_fail 2 none 1 := ⟨tg (tb_4 (List.mem_of_getElem? (i := 6) rfl)) rfl, tg (tb_1 (List.mem_of_getElem? (i := 2) rfl)) rfl, ⟨by decide, by decide⟩, by decide +kernel, plainFor_of_name (by decide +kernel)⟩
theorem mi_X6_fail : Cond.instanceMethod yX6_fail ∈ gtbl := tg (tb_4 (List.mem_of_getElem? (i := 5) rfl)) rfl
theorem msel_X6_fail : Cond.selects yX6_fail.cls yX6_fail yX6_fail ∈ gtbl := tg (List.mem_append_left _ (List.mem_map.mpr ⟨(⟨"SpanValues$Reader", "fail", "(I)V"⟩, _), (List.mem_append_left _ (List.mem_of_getElem? (i := 4) rfl) : _ ∈ lw_privs), rfl⟩)) rfl
theorem my_X6_isBlank : MYk yX6_isBlank cX6_isBlank 1 (some .boolean) 1 := ⟨tg (tb_3 (List.mem_of_getElem? (i := 176) rfl)) rfl, tg (tb_1 (List.mem_of_getElem? (i := 2) rfl)) rfl, ⟨by decide, by decide⟩, by decide +kernel, plainFor_of_name (by decide +kernel)⟩
theorem ms_X6_isBlank : Cond.static yX6_isBlank ∈ gtbl := tg (tb_3 (List.mem_of_getElem? (i := 175) rfl)) rfl
theorem my_X6_isDigit : MYk yX6_isDigit cX6_isDigit 1 (some .boolean) 1 := ⟨tg (tb_3 (List.mem_of_getElem? (i := 182) rfl)) rfl, tg (tb_1 (List.mem_of_getElem? (i := 2) rfl)) rfl, ⟨by decide, by decide⟩, by decide +kernel, plainFor_of_name (by decide +kernel)⟩
theorem ms_X6_isDigit : Cond.static yX6_isDigit ∈ gtbl := tg (tb_3 (List.mem_of_getElem? (i := 181) rfl)) rfl
theorem my_X6_isLabel : MYk yX6_isLabel cX6_isLabel 1 (some .boolean) 0 := ⟨tg (tb_4 (List.mem_of_getElem? (i := 14) rfl)) rfl, tg (tb_1 (List.mem_of_getElem? (i := 2) rfl)) rfl, ⟨by decide, by decide⟩, by decide +kernel, plainFor_of_name (by decide +kernel)⟩
theorem mi_X6_isLabel : Cond.instanceMethod yX6_isLabel ∈ gtbl := tg (tb_4 (List.mem_of_getElem? (i := 13) rfl)) rfl
theorem msel_X6_isLabel : Cond.selects yX6_isLabel.cls yX6_isLabel yX6_isLabel ∈ gtbl := tg (List.mem_append_left _ (List.mem_map.mpr ⟨(⟨"SpanValues$Reader", "isLabel", "()Z"⟩, _), (List.mem_append_left _ (List.mem_of_getElem? (i := 6) rfl) : _ ∈ lw_privs), rfl⟩)) rfl
theorem my_X6_isLetter : MYk yX6_isLetter cX6_isLetter 1 (some .boolean) 0 := ⟨tg (tb_4 (List.mem_of_getElem? (i := 18) rfl)) rfl, tg (tb_1 (List.mem_of_getElem? (i := 2) rfl)) rfl, ⟨by decide, by decide⟩, by decide +kernel, plainFor_of_name (by decide +kernel)⟩
theorem mi_X6_isLetter : Cond.instanceMethod yX6_isLetter ∈ gtbl := tg (tb_4 (List.mem_of_getElem? (i := 17) rfl)) rfl
theorem msel_X6_isLetter : Cond.selects yX6_isLetter.cls yX6_isLetter yX6_isLetter ∈ gtbl := tg (List.mem_append_left _ (List.mem_map.mpr ⟨(⟨"SpanValues$Reader", "isLetter", "()Z"⟩, _), (List.mem_append_left _ (List.mem_of_getElem? (i := 7) rfl) : _ ∈ lw_privs), rfl⟩)) rfl
theorem my_X6_isSmall : MYk yX6_isSmall cX6_isSmall 1 (some .boolean) 1 := ⟨tg (tb_3 (List.mem_of_getElem? (i := 179) rfl)) rfl, tg (tb_1 (List.mem_of_getElem? (i := 2) rfl)) rfl, ⟨by decide, by decide⟩, by decide +kernel, plainFor_of_name (by decide +kernel)⟩
theorem ms_X6_isSmall : Cond.static yX6_isSmall ∈ gtbl := tg (tb_3 (List.mem_of_getElem? (i := 178) rfl)) rfl
theorem my_X6_isWord : MYk yX6_isWord cX6_isWord 3 (some .boolean) 1 := ⟨tg (tb_3 (List.mem_of_getElem? (i := 190) rfl)) rfl, tg (tb_1 (List.mem_of_getElem? (i := 2) rfl)) rfl, ⟨by decide, by decide⟩, by decide +kernel, plainFor_of_name (by decide +kernel)⟩
theorem mi_X6_isWord : Cond.instanceMethod yX6_isWord ∈ gtbl := tg (tb_3 (List.mem_of_getElem? (i := 189) rfl)) rfl
theorem msel_X6_isWord : Cond.selects yX6_isWord.cls yX6_isWord yX6_isWord ∈ gtbl := tg (List.mem_append_left _ (List.mem_map.mpr ⟨(⟨"SpanValues$Reader", "isWord", "(Ljava/lang/String;)Z"⟩, _), (List.mem_append_left _ (List.mem_of_getElem? (i := 2) rfl) : _ ∈ lw_privs), rfl⟩)) rfl
theorem my_X6_passSign : MYk yX6_passSign cX6_passSign 2 none 1 := ⟨tg (tb_4 (List.mem_of_getElem? (i := 22) rfl)) rfl, tg (tb_1 (List.mem_of_getElem? (i := 2) rfl)) rfl, ⟨by decide, by decide⟩, by decide +kernel, plainFor_of_name (by decide +kernel)⟩
theorem mi_X6_passSign : Cond.instanceMethod yX6_passSign ∈ gtbl := tg (tb_4 (List.mem_of_getElem? (i := 21) rfl)) rfl
theorem msel_X6_passSign : Cond.selects yX6_passSign.cls yX6_passSign yX6_passSign ∈ gtbl := tg (List.mem_append_left _ (List.mem_map.mpr ⟨(⟨"SpanValues$Reader", "passSign", "(C)V"⟩, _), (List.mem_append_left _ (List.mem_of_getElem? (i := 8) rfl) : _ ∈ lw_privs), rfl⟩)) rfl
theorem my_X6_passWord : MYk yX6_passWord cX6_passWord 2 none 1 := ⟨tg (tb_4 (List.mem_of_getElem? (i := 38) rfl)) rfl, tg (tb_1 (List.mem_of_getElem? (i := 2) rfl)) rfl, ⟨by decide, by decide⟩, by decide +kernel, plainFor_of_name (by decide +kernel)⟩
theorem mi_X6_passWord : Cond.instanceMethod yX6_passWord ∈ gtbl := tg (tb_4 (List.mem_of_getElem? (i := 37) rfl)) rfl
theorem msel_X6_passWord : Cond.selects yX6_passWord.cls yX6_passWord yX6_passWord ∈ gtbl := tg (List.mem_append_left _ (List.mem_map.mpr ⟨(⟨"SpanValues$Reader", "passWord", "(Ljava/lang/String;)V"⟩, _), (List.mem_append_left _ (List.mem_of_getElem? (i := 11) rfl) : _ ∈ lw_privs), rfl⟩)) rfl
theorem my_X6_read : MYk yX6_read cX6_read 3 none 1 := ⟨tg (tb_3 (List.mem_of_getElem? (i := 168) rfl)) rfl, tg (tb_1 (List.mem_of_getElem? (i := 2) rfl)) rfl, ⟨by decide, by decide⟩, by decide +kernel, plainFor_of_name (by decide +kernel)⟩
theorem mi_X6_read : Cond.instanceMethod yX6_read ∈ gtbl := tg (tb_3 (List.mem_of_getElem? (i := 166) rfl)) rfl
theorem msel_X6_read : Cond.selects yX6_read.cls yX6_read yX6_read ∈ gtbl := tg (tb_3 (List.mem_of_getElem? (i := 167) rfl)) rfl
theorem my_X6_readNumber : MYk yX6_readNumber cX6_readNumber 4 (some .int) 2 := ⟨tg (tb_4 (List.mem_of_getElem? (i := 27) rfl)) rfl, tg (tb_1 (List.mem_of_getElem? (i := 2) rfl)) rfl, ⟨by decide, by decide⟩, by decide +kernel, plainFor_of_name (by decide +kernel)⟩
theorem mi_X6_readNumber : Cond.instanceMethod yX6_readNumber ∈ gtbl := tg (tb_4 (List.mem_of_getElem? (i := 26) rfl)) rfl
theorem msel_X6_readNumber : Cond.selects yX6_readNumber.cls yX6_readNumber yX6_readNumber ∈ gtbl := tg (List.mem_append_left _ (List.mem_map.mpr ⟨(⟨"SpanValues$Reader", "readNumber", "(II)I"⟩, _), (List.mem_append_left _ (List.mem_of_getElem? (i := 9) rfl) : _ ∈ lw_privs), rfl⟩)) rfl
theorem my_X6_readPart : MYk yX6_readPart cX6_readPart 3 (some .int) 1 := ⟨tg (tb_4 (List.mem_of_getElem? (i := 10) rfl)) rfl, tg (tb_1 (List.mem_of_getElem? (i := 2) rfl)) rfl, ⟨by decide, by decide⟩, by decide +kernel, plainFor_of_name (by decide +kernel)⟩
theorem mi_X6_readPart : Cond.instanceMethod yX6_readPart ∈ gtbl := tg (tb_4 (List.mem_of_getElem? (i := 9) rfl)) rfl
theorem msel_X6_readPart : Cond.selects yX6_readPart.cls yX6_readPart yX6_readPart ∈ gtbl := tg (List.mem_append_left _ (List.mem_map.mpr ⟨(⟨"SpanValues$Reader", "readPart", "(Z)I"⟩, _), (List.mem_append_left _ (List.mem_of_getElem? (i := 5) rfl) : _ ∈ lw_privs), rfl⟩)) rfl
theorem my_X6_readRow : MYk yX6_readRow cX6_readRow 4 none 1 := ⟨tg (tb_4 (List.mem_of_getElem? (i := 44) rfl)) rfl, tg (tb_1 (List.mem_of_getElem? (i := 2) rfl)) rfl, ⟨by decide, by decide⟩, by decide +kernel, plainFor_of_name (by decide +kernel)⟩
theorem mi_X6_readRow : Cond.instanceMethod yX6_readRow ∈ gtbl := tg (tb_4 (List.mem_of_getElem? (i := 43) rfl)) rfl
theorem msel_X6_readRow : Cond.selects yX6_readRow.cls yX6_readRow yX6_readRow ∈ gtbl := tg (List.mem_append_left _ (List.mem_map.mpr ⟨(⟨"SpanValues$Reader", "readRow", "([I)V"⟩, _), (List.mem_append_left _ (List.mem_of_getElem? (i := 12) rfl) : _ ∈ lw_privs), rfl⟩)) rfl
theorem my_X6_readRule : MYk yX6_readRule cX6_readRule 2 none 0 := ⟨tg (tb_4 (List.mem_of_getElem? (i := 2) rfl)) rfl, tg (tb_1 (List.mem_of_getElem? (i := 2) rfl)) rfl, ⟨by decide, by decide⟩, by decide +kernel, plainFor_of_name (by decide +kernel)⟩
theorem mi_X6_readRule : Cond.instanceMethod yX6_readRule ∈ gtbl := tg (tb_4 (List.mem_of_getElem? (i := 1) rfl)) rfl
theorem msel_X6_readRule : Cond.selects yX6_readRule.cls yX6_readRule yX6_readRule ∈ gtbl := tg (List.mem_append_left _ (List.mem_map.mpr ⟨(⟨"SpanValues$Reader", "readRule", "()V"⟩, _), (List.mem_append_left _ (List.mem_of_getElem? (i := 3) rfl) : _ ∈ lw_privs), rfl⟩)) rfl
theorem my_X6_readTable : MYk yX6_readTable cX6_readTable 1 none 0 := ⟨tg (tb_4 (List.mem_of_getElem? (i := 33) rfl)) rfl, tg (tb_1 (List.mem_of_getElem? (i := 2) rfl)) rfl, ⟨by decide, by decide⟩, by decide +kernel, plainFor_of_name (by decide +kernel)⟩
theorem mi_X6_readTable : Cond.instanceMethod yX6_readTable ∈ gtbl := tg (tb_4 (List.mem_of_getElem? (i := 32) rfl)) rfl
theorem msel_X6_readTable : Cond.selects yX6_readTable.cls yX6_readTable yX6_readTable ∈ gtbl := tg (List.mem_append_left _ (List.mem_map.mpr ⟨(⟨"SpanValues$Reader", "readTable", "()V"⟩, _), (List.mem_append_left _ (List.mem_of_getElem? (i := 10) rfl) : _ ∈ lw_privs), rfl⟩)) rfl
theorem my_X7_eliminate : MYk yX7_eliminate cX7_eliminate 5 (some .boolean) 1 := ⟨tg (tb_5 (List.mem_of_getElem? (i := 145) rfl)) rfl, tg (tb_1 (List.mem_of_getElem? (i := 7) rfl)) rfl, ⟨by decide, by decide⟩, by decide +kernel, plainFor_of_name (by decide +kernel)⟩
theorem mi_X7_eliminate : Cond.instanceMethod yX7_eliminate ∈ gtbl := tg (tb_5 (List.mem_of_getElem? (i := 144) rfl)) rfl
theorem msel_X7_eliminate : Cond.selects yX7_eliminate.cls yX7_eliminate yX7_eliminate ∈ gtbl := tg (List.mem_append_left _ (List.mem_map.mpr ⟨(⟨"SpanValues$Sums", "eliminate", "(I)Z"⟩, _), (List.mem_append_right _ (List.mem_append_right _ (List.mem_append_left _ (List.mem_of_getElem? (i := 4) rfl))) : _ ∈ lw_privs), rfl⟩)) rfl
theorem my_X7_forget : MYk yX7_forget cX7_forget 1 none 0 := ⟨tg (tb_4 (List.mem_of_getElem? (i := 77) rfl)) rfl, tg (tb_1 (List.mem_of_getElem? (i := 7) rfl)) rfl, ⟨by decide, by decide⟩, by decide +kernel, plainFor_of_name (by decide +kernel)⟩
theorem mi_X7_forget : Cond.instanceMethod yX7_forget ∈ gtbl := tg (tb_4 (List.mem_of_getElem? (i := 75) rfl)) rfl
theorem msel_X7_forget : Cond.selects yX7_forget.cls yX7_forget yX7_forget ∈ gtbl := tg (tb_4 (List.mem_of_getElem? (i := 76) rfl)) rfl
theorem my_X7_inverse : MYk yX7_inverse cX7_inverse 4 (some .int) 1 := ⟨tg (tb_5 (List.mem_of_getElem? (i := 152) rfl)) rfl, tg (tb_1 (List.mem_of_getElem? (i := 7) rfl)) rfl, ⟨by decide, by decide⟩, by decide +kernel, plainFor_of_name (by decide +kernel)⟩
theorem ms_X7_inverse : Cond.static yX7_inverse ∈ gtbl := tg (tb_5 (List.mem_of_getElem? (i := 151) rfl)) rfl
theorem my_X7_scaleRow : MYk yX7_scaleRow cX7_scaleRow 4 none 2 := ⟨tg (tb_5 (List.mem_of_getElem? (i := 156) rfl)) rfl, tg (tb_1 (List.mem_of_getElem? (i := 7) rfl)) rfl, ⟨by decide, by decide⟩, by decide +kernel, plainFor_of_name (by decide +kernel)⟩
theorem mi_X7_scaleRow : Cond.instanceMethod yX7_scaleRow ∈ gtbl := tg (tb_5 (List.mem_of_getElem? (i := 155) rfl)) rfl
theorem msel_X7_scaleRow : Cond.selects yX7_scaleRow.cls yX7_scaleRow yX7_scaleRow ∈ gtbl := tg (List.mem_append_left _ (List.mem_map.mpr ⟨(⟨"SpanValues$Sums", "scaleRow", "(II)V"⟩, _), (List.mem_append_right _ (List.mem_append_right _ (List.mem_append_left _ (List.mem_of_getElem? (i := 6) rfl))) : _ ∈ lw_privs), rfl⟩)) rfl
theorem my_X7_setEquation : MYk yX7_setEquation cX7_setEquation 9 (some .boolean) 2 := ⟨tg (tb_5 (List.mem_of_getElem? (i := 134) rfl)) rfl, tg (tb_1 (List.mem_of_getElem? (i := 7) rfl)) rfl, ⟨by decide, by decide⟩, by decide +kernel, plainFor_of_name (by decide +kernel)⟩
theorem mi_X7_setEquation : Cond.instanceMethod yX7_setEquation ∈ gtbl := tg (tb_5 (List.mem_of_getElem? (i := 133) rfl)) rfl
theorem msel_X7_setEquation : Cond.selects yX7_setEquation.cls yX7_setEquation yX7_setEquation ∈ gtbl := tg (List.mem_append_left _ (List.mem_map.mpr ⟨(⟨"SpanValues$Sums", "setEquation", "(II)Z"⟩, _), (List.mem_append_right _ (List.mem_append_right _ (List.mem_append_left _ (List.mem_of_getElem? (i := 3) rfl))) : _ ∈ lw_privs), rfl⟩)) rfl
theorem my_X7_solveSpan : MYk yX7_solveSpan cX7_solveSpan 7 none 1 := ⟨tg (tb_5 (List.mem_of_getElem? (i := 128) rfl)) rfl, tg (tb_1 (List.mem_of_getElem? (i := 7) rfl)) rfl, ⟨by decide, by decide⟩, by decide +kernel, plainFor_of_name (by decide +kernel)⟩
theorem mi_X7_solveSpan : Cond.instanceMethod yX7_solveSpan ∈ gtbl := tg (tb_5 (List.mem_of_getElem? (i := 127) rfl)) rfl
theorem msel_X7_solveSpan : Cond.selects yX7_solveSpan.cls yX7_solveSpan yX7_solveSpan ∈ gtbl := tg (List.mem_append_left _ (List.mem_map.mpr ⟨(⟨"SpanValues$Sums", "solveSpan", "(I)V"⟩, _), (List.mem_append_right _ (List.mem_append_right _ (List.mem_append_left _ (List.mem_of_getElem? (i := 2) rfl))) : _ ∈ lw_privs), rfl⟩)) rfl
theorem my_X7_subtractRow : MYk yX7_subtractRow cX7_subtractRow 6 none 3 := ⟨tg (tb_5 (List.mem_of_getElem? (i := 160) rfl)) rfl, tg (tb_1 (List.mem_of_getElem? (i := 7) rfl)) rfl, ⟨by decide, by decide⟩, by decide +kernel, plainFor_of_name (by decide +kernel)⟩
theorem mi_X7_subtractRow : Cond.instanceMethod yX7_subtractRow ∈ gtbl := tg (tb_5 (List.mem_of_getElem? (i := 159) rfl)) rfl
theorem msel_X7_subtractRow : Cond.selects yX7_subtractRow.cls yX7_subtractRow yX7_subtractRow ∈ gtbl := tg (List.mem_append_left _ (List.mem_map.mpr ⟨(⟨"SpanValues$Sums", "subtractRow", "(III)V"⟩, _), (List.mem_append_right _ (List.mem_append_right _ (List.mem_append_left _ (List.mem_of_getElem? (i := 7) rfl))) : _ ∈ lw_privs), rfl⟩)) rfl
theorem my_X7_sumOf : MYk yX7_sumOf cX7_sumOf 3 (some .int) 1 := ⟨tg (tb_5 (List.mem_of_getElem? (i := 123) rfl)) rfl, tg (tb_1 (List.mem_of_getElem? (i := 7) rfl)) rfl, ⟨by decide, by decide⟩, by decide +kernel, plainFor_of_name (by decide +kernel)⟩
theorem mi_X7_sumOf : Cond.instanceMethod yX7_sumOf ∈ gtbl := tg (tb_5 (List.mem_of_getElem? (i := 121) rfl)) rfl
theorem msel_X7_sumOf : Cond.selects yX7_sumOf.cls yX7_sumOf yX7_sumOf ∈ gtbl := tg (tb_5 (List.mem_of_getElem? (i := 122) rfl)) rfl
theorem my_X7_swapRows : MYk yX7_swapRows cX7_swapRows 5 none 2 := ⟨tg (tb_5 (List.mem_of_getElem? (i := 149) rfl)) rfl, tg (tb_1 (List.mem_of_getElem? (i := 7) rfl)) rfl, ⟨by decide, by decide⟩, by decide +kernel, plainFor_of_name (by decide +kernel)⟩
theorem mi_X7_swapRows : Cond.instanceMethod yX7_swapRows ∈ gtbl := tg (tb_5 (List.mem_of_getElem? (i := 148) rfl)) rfl
theorem msel_X7_swapRows : Cond.selects yX7_swapRows.cls yX7_swapRows yX7_swapRows ∈ gtbl := tg (List.mem_append_left _ (List.mem_map.mpr ⟨(⟨"SpanValues$Sums", "swapRows", "(II)V"⟩, _), (List.mem_append_right _ (List.mem_append_right _ (List.mem_append_left _ (List.mem_of_getElem? (i := 5) rfl))) : _ ∈ lw_privs), rfl⟩)) rfl
theorem my_X8_add : MYk yX8_add cX8_add 6 (some .long) 2 := ⟨tg (tb_5 (List.mem_of_getElem? (i := 64) rfl)) rfl, tg (tb_1 (List.mem_of_getElem? (i := 11) rfl)) rfl, ⟨by decide, by decide⟩, by decide +kernel, plainFor_of_name (by decide +kernel)⟩
theorem ms_X8_add : Cond.static yX8_add ∈ gtbl := tg (tb_5 (List.mem_of_getElem? (i := 63) rfl)) rfl
theorem my_X8_countCase : MYk yX8_countCase cX8_countCase 5 (some .long) 2 := ⟨tg (tb_6 (List.mem_of_getElem? (i := 192) rfl)) rfl, tg (tb_1 (List.mem_of_getElem? (i := 11) rfl)) rfl, ⟨by decide, by decide⟩, by decide +kernel, plainFor_of_name (by decide +kernel)⟩
theorem mi_X8_countCase : Cond.instanceMethod yX8_countCase ∈ gtbl := tg (tb_6 (List.mem_of_getElem? (i := 191) rfl)) rfl
theorem msel_X8_countCase : Cond.selects yX8_countCase.cls yX8_countCase yX8_countCase ∈ gtbl := tg (List.mem_append_left _ (List.mem_map.mpr ⟨(⟨"SpanValues$Tally", "countCase", "(II)J"⟩, _), (List.mem_append_right _ (List.mem_append_right _ (List.mem_append_right _ (List.mem_append_right _ (List.mem_append_left _ (List.mem_of_getElem? (i := 3) rfl))))) : _ ∈ lw_privs), rfl⟩)) rfl
theorem my_X8_countItem : MYk yX8_countItem cX8_countItem 7 (some .long) 2 := ⟨tg (tb_6 (List.mem_of_getElem? (i := 184) rfl)) rfl, tg (tb_1 (List.mem_of_getElem? (i := 11) rfl)) rfl, ⟨by decide, by decide⟩, by decide +kernel, plainFor_of_name (by decide +kernel)⟩
theorem mi_X8_countItem : Cond.instanceMethod yX8_countItem ∈ gtbl := tg (tb_6 (List.mem_of_getElem? (i := 183) rfl)) rfl
theorem msel_X8_countItem : Cond.selects yX8_countItem.cls yX8_countItem yX8_countItem ∈ gtbl := tg (List.mem_append_left _ (List.mem_map.mpr ⟨(⟨"SpanValues$Tally", "countItem", "(II)J"⟩, _), (List.mem_append_right _ (List.mem_append_right _ (List.mem_append_right _ (List.mem_append_right _ (List.mem_append_left _ (List.mem_of_getElem? (i := 2) rfl))))) : _ ∈ lw_privs), rfl⟩)) rfl
theorem my_X8_countPairs : MYk yX8_countPairs cX8_countPairs 11 (some .long) 3 := ⟨tg (tb_6 (List.mem_of_getElem? (i := 197) rfl)) rfl, tg (tb_1 (List.mem_of_getElem? (i := 11) rfl)) rfl, ⟨by decide, by decide⟩, by decide +kernel, plainFor_of_name (by decide +kernel)⟩
theorem mi_X8_countPairs : Cond.instanceMethod yX8_countPairs ∈ gtbl := tg (tb_6 (List.mem_of_getElem? (i := 196) rfl)) rfl
theorem msel_X8_countPairs : Cond.selects yX8_countPairs.cls yX8_countPairs yX8_countPairs ∈ gtbl := tg (List.mem_append_left _ (List.mem_map.mpr ⟨(⟨"SpanValues$Tally", "countPairs", "(III)J"⟩, _), (List.mem_append_right _ (List.mem_append_right _ (List.mem_append_right _ (List.mem_append_right _ (List.mem_append_left _ (List.mem_of_getElem? (i := 4) rfl))))) : _ ∈ lw_privs), rfl⟩)) rfl
theorem my_X8_countSpan : MYk yX8_countSpan cX8_countSpan 8 none 2 := ⟨tg (tb_6 (List.mem_of_getElem? (i := 180) rfl)) rfl, tg (tb_1 (List.mem_of_getElem? (i := 11) rfl)) rfl, ⟨by decide, by decide⟩, by decide +kernel, plainFor_of_name (by decide +kernel)⟩
theorem mi_X8_countSpan : Cond.instanceMethod yX8_countSpan ∈ gtbl := tg (tb_6 (List.mem_of_getElem? (i := 179) rfl)) rfl
theorem msel_X8_countSpan : Cond.selects yX8_countSpan.cls yX8_countSpan yX8_countSpan ∈ gtbl := tg (List.mem_append_left _ (List.mem_map.mpr ⟨(⟨"SpanValues$Tally", "countSpan", "(II)V"⟩, _), (List.mem_append_right _ (List.mem_append_right _ (List.mem_append_right _ (List.mem_append_right _ (List.mem_append_left _ (List.mem_of_getElem? (i := 1) rfl))))) : _ ∈ lw_privs), rfl⟩)) rfl
theorem my_X8_forget : MYk yX8_forget cX8_forget 1 none 0 := ⟨tg (tb_4 (List.mem_of_getElem? (i := 85) rfl)) rfl, tg (tb_1 (List.mem_of_getElem? (i := 11) rfl)) rfl, ⟨by decide, by decide⟩, by decide +kernel, plainFor_of_name (by decide +kernel)⟩
theorem mi_X8_forget : Cond.instanceMethod yX8_forget ∈ gtbl := tg (tb_4 (List.mem_of_getElem? (i := 83) rfl)) rfl
theorem msel_X8_forget : Cond.selects yX8_forget.cls yX8_forget yX8_forget ∈ gtbl := tg (tb_4 (List.mem_of_getElem? (i := 84) rfl)) rfl
theorem my_X8_multiply : MYk yX8_multiply cX8_multiply 5 (some .long) 2 := ⟨tg (tb_5 (List.mem_of_getElem? (i := 56) rfl)) rfl, tg (tb_1 (List.mem_of_getElem? (i := 11) rfl)) rfl, ⟨by decide, by decide⟩, by decide +kernel, plainFor_of_name (by decide +kernel)⟩
theorem ms_X8_multiply : Cond.static yX8_multiply ∈ gtbl := tg (tb_5 (List.mem_of_getElem? (i := 55) rfl)) rfl
theorem my_X8_upTo : MYk yX8_upTo cX8_upTo 7 (some .long) 2 := ⟨tg (tb_6 (List.mem_of_getElem? (i := 173) rfl)) rfl, tg (tb_1 (List.mem_of_getElem? (i := 11) rfl)) rfl, ⟨by decide, by decide⟩, by decide +kernel, plainFor_of_name (by decide +kernel)⟩
theorem mi_X8_upTo : Cond.instanceMethod yX8_upTo ∈ gtbl := tg (tb_6 (List.mem_of_getElem? (i := 171) rfl)) rfl
theorem msel_X8_upTo : Cond.selects yX8_upTo.cls yX8_upTo yX8_upTo ∈ gtbl := tg (tb_6 (List.mem_of_getElem? (i := 172) rfl)) rfl
theorem my_X9_changeAll : MYk yX9_changeAll cX9_changeAll 4 (some .boolean) 0 := ⟨tg (tb_5 (List.mem_of_getElem? (i := 178) rfl)) rfl, tg (tb_1 (List.mem_of_getElem? (i := 8) rfl)) rfl, ⟨by decide, by decide⟩, by decide +kernel, plainFor_of_name (by decide +kernel)⟩
theorem mi_X9_changeAll : Cond.instanceMethod yX9_changeAll ∈ gtbl := tg (tb_5 (List.mem_of_getElem? (i := 177) rfl)) rfl
theorem msel_X9_changeAll : Cond.selects yX9_changeAll.cls yX9_changeAll yX9_changeAll ∈ gtbl := tg (List.mem_append_left _ (List.mem_map.mpr ⟨(⟨"SpanValues$Values", "changeAll", "()Z"⟩, _), (List.mem_append_right _ (List.mem_append_right _ (List.mem_append_left _ (List.mem_of_getElem? (i := 8) rfl))) : _ ∈ lw_privs), rfl⟩)) rfl
theorem my_X9_forget : MYk yX9_forget cX9_forget 1 none 0 := ⟨tg (tb_4 (List.mem_of_getElem? (i := 65) rfl)) rfl, tg (tb_1 (List.mem_of_getElem? (i := 8) rfl)) rfl, ⟨by decide, by decide⟩, by decide +kernel, plainFor_of_name (by decide +kernel)⟩
theorem mi_X9_forget : Cond.instanceMethod yX9_forget ∈ gtbl := tg (tb_4 (List.mem_of_getElem? (i := 63) rfl)) rfl
theorem msel_X9_forget : Cond.selects yX9_forget.cls yX9_forget yX9_forget ∈ gtbl := tg (tb_4 (List.mem_of_getElem? (i := 64) rfl)) rfl
theorem my_X9_keep : MYk yX9_keep cX9_keep 4 (some .int) 4 := ⟨tg (tb_5 (List.mem_of_getElem? (i := 218) rfl)) rfl, tg (tb_1 (List.mem_of_getElem? (i := 8) rfl)) rfl, ⟨by decide, by decide⟩, by decide +kernel, plainFor_of_name (by decide +kernel)⟩
theorem ms_X9_keep : Cond.static yX9_keep ∈ gtbl := tg (tb_5 (List.mem_of_getElem? (i := 217) rfl)) rfl
theorem my_X9_lawsKept : MYk yX9_lawsKept cX9_lawsKept 4 (some .int) 0 := ⟨tg (tb_5 (List.mem_of_getElem? (i := 207) rfl)) rfl, tg (tb_1 (List.mem_of_getElem? (i := 8) rfl)) rfl, ⟨by decide, by decide⟩, by decide +kernel, plainFor_of_name (by decide +kernel)⟩
theorem mi_X9_lawsKept : Cond.instanceMethod yX9_lawsKept ∈ gtbl := tg (tb_5 (List.mem_of_getElem? (i := 205) rfl)) rfl
theorem msel_X9_lawsKept : Cond.selects yX9_lawsKept.cls yX9_lawsKept yX9_lawsKept ∈ gtbl := tg (tb_5 (List.mem_of_getElem? (i := 206) rfl)) rfl
theorem my_X9_lawsOfMore : MYk yX9_lawsOfMore cX9_lawsOfMore 6 (some .int) 2 := ⟨tg (tb_5 (List.mem_of_getElem? (i := 222) rfl)) rfl, tg (tb_1 (List.mem_of_getElem? (i := 8) rfl)) rfl, ⟨by decide, by decide⟩, by decide +kernel, plainFor_of_name (by decide +kernel)⟩
theorem mi_X9_lawsOfMore : Cond.instanceMethod yX9_lawsOfMore ∈ gtbl := tg (tb_5 (List.mem_of_getElem? (i := 221) rfl)) rfl
theorem msel_X9_lawsOfMore : Cond.selects yX9_lawsOfMore.cls yX9_lawsOfMore yX9_lawsOfMore ∈ gtbl := tg (List.mem_append_left _ (List.mem_map.mpr ⟨(⟨"SpanValues$Values", "lawsOfMore", "(II)I"⟩, _), (List.mem_append_right _ (List.mem_append_right _ (List.mem_append_left _ (List.mem_of_getElem? (i := 13) rfl))) : _ ∈ lw_privs), rfl⟩)) rfl
theorem my_X9_lawsOfOne : MYk yX9_lawsOfOne cX9_lawsOfOne 5 (some .int) 1 := ⟨tg (tb_5 (List.mem_of_getElem? (i := 215) rfl)) rfl, tg (tb_1 (List.mem_of_getElem? (i := 8) rfl)) rfl, ⟨by decide, by decide⟩, by decide +kernel, plainFor_of_name (by decide +kernel)⟩
theorem mi_X9_lawsOfOne : Cond.instanceMethod yX9_lawsOfOne ∈ gtbl := tg (tb_5 (List.mem_of_getElem? (i := 214) rfl)) rfl
theorem msel_X9_lawsOfOne : Cond.selects yX9_lawsOfOne.cls yX9_lawsOfOne yX9_lawsOfOne ∈ gtbl := tg (List.mem_append_left _ (List.mem_map.mpr ⟨(⟨"SpanValues$Values", "lawsOfOne", "(I)I"⟩, _), (List.mem_append_right _ (List.mem_append_right _ (List.mem_append_left _ (List.mem_of_getElem? (i := 12) rfl))) : _ ∈ lw_privs), rfl⟩)) rfl
theorem my_X9_meetAll : MYk yX9_meetAll cX9_meetAll 2 none 0 := ⟨tg (tb_5 (List.mem_of_getElem? (i := 211) rfl)) rfl, tg (tb_1 (List.mem_of_getElem? (i := 8) rfl)) rfl, ⟨by decide, by decide⟩, by decide +kernel, plainFor_of_name (by decide +kernel)⟩
theorem mi_X9_meetAll : Cond.instanceMethod yX9_meetAll ∈ gtbl := tg (tb_5 (List.mem_of_getElem? (i := 210) rfl)) rfl
theorem msel_X9_meetAll : Cond.selects yX9_meetAll.cls yX9_meetAll yX9_meetAll ∈ gtbl := tg (List.mem_append_left _ (List.mem_map.mpr ⟨(⟨"SpanValues$Values", "meetAll", "()V"⟩, _), (List.mem_append_right _ (List.mem_append_right _ (List.mem_append_left _ (List.mem_of_getElem? (i := 11) rfl))) : _ ∈ lw_privs), rfl⟩)) rfl
theorem my_X9_partValue : MYk yX9_partValue cX9_partValue 2 (some .int) 1 := ⟨tg (tb_5 (List.mem_of_getElem? (i := 189) rfl)) rfl, tg (tb_1 (List.mem_of_getElem? (i := 8) rfl)) rfl, ⟨by decide, by decide⟩, by decide +kernel, plainFor_of_name (by decide +kernel)⟩
theorem mi_X9_partValue : Cond.instanceMethod yX9_partValue ∈ gtbl := tg (tb_5 (List.mem_of_getElem? (i := 188) rfl)) rfl
theorem msel_X9_partValue : Cond.selects yX9_partValue.cls yX9_partValue yX9_partValue ∈ gtbl := tg (List.mem_append_left _ (List.mem_map.mpr ⟨(⟨"SpanValues$Values", "partValue", "(I)I"⟩, _), (List.mem_append_right _ (List.mem_append_right _ (List.mem_append_left _ (List.mem_of_getElem? (i := 10) rfl))) : _ ∈ lw_privs), rfl⟩)) rfl
theorem my_X9_renewed : MYk yX9_renewed cX9_renewed 5 (some .int) 1 := ⟨tg (tb_5 (List.mem_of_getElem? (i := 183) rfl)) rfl, tg (tb_1 (List.mem_of_getElem? (i := 8) rfl)) rfl, ⟨by decide, by decide⟩, by decide +kernel, plainFor_of_name (by decide +kernel)⟩
theorem mi_X9_renewed : Cond.instanceMethod yX9_renewed ∈ gtbl := tg (tb_5 (List.mem_of_getElem? (i := 182) rfl)) rfl
theorem msel_X9_renewed : Cond.selects yX9_renewed.cls yX9_renewed yX9_renewed ∈ gtbl := tg (List.mem_append_left _ (List.mem_map.mpr ⟨(⟨"SpanValues$Values", "renewed", "(I)I"⟩, _), (List.mem_append_right _ (List.mem_append_right _ (List.mem_append_left _ (List.mem_of_getElem? (i := 9) rfl))) : _ ∈ lw_privs), rfl⟩)) rfl
theorem my_X9_roundsTaken : MYk yX9_roundsTaken cX9_roundsTaken 2 (some .int) 0 := ⟨tg (tb_5 (List.mem_of_getElem? (i := 172) rfl)) rfl, tg (tb_1 (List.mem_of_getElem? (i := 8) rfl)) rfl, ⟨by decide, by decide⟩, by decide +kernel, plainFor_of_name (by decide +kernel)⟩
theorem mi_X9_roundsTaken : Cond.instanceMethod yX9_roundsTaken ∈ gtbl := tg (tb_5 (List.mem_of_getElem? (i := 170) rfl)) rfl
theorem msel_X9_roundsTaken : Cond.selects yX9_roundsTaken.cls yX9_roundsTaken yX9_roundsTaken ∈ gtbl := tg (tb_5 (List.mem_of_getElem? (i := 171) rfl)) rfl
theorem my_X9_valueOf : MYk yX9_valueOf cX9_valueOf 2 (some .int) 1 := ⟨tg (tb_5 (List.mem_of_getElem? (i := 168) rfl)) rfl, tg (tb_1 (List.mem_of_getElem? (i := 8) rfl)) rfl, ⟨by decide, by decide⟩, by decide +kernel, plainFor_of_name (by decide +kernel)⟩
theorem mi_X9_valueOf : Cond.instanceMethod yX9_valueOf ∈ gtbl := tg (tb_5 (List.mem_of_getElem? (i := 166) rfl)) rfl
theorem msel_X9_valueOf : Cond.selects yX9_valueOf.cls yX9_valueOf yX9_valueOf ∈ gtbl := tg (tb_5 (List.mem_of_getElem? (i := 167) rfl)) rfl
theorem wc_RJ13_314 : Jvm.Cond.constantLong RJ13 314 (Int64.ofInt 6148914691236517205) ∈ gtbl := tg (tb_10 (List.mem_of_getElem? (i := 93) rfl)) rfl
theorem wc_RJ13_316 : Jvm.Cond.constantLong RJ13 316 (Int64.ofInt 3689348814741910323) ∈ gtbl := tg (tb_10 (List.mem_of_getElem? (i := 94) rfl)) rfl
theorem wc_RJ13_318 : Jvm.Cond.constantLong RJ13 318 (Int64.ofInt 1085102592571150095) ∈ gtbl := tg (tb_10 (List.mem_of_getElem? (i := 95) rfl)) rfl
theorem wc_RX11_230 : Jvm.Cond.constantLong RX11 230 (Int64.ofInt (-2)) ∈ gtbl := tg (tb_5 (List.mem_of_getElem? (i := 29) rfl)) rfl
theorem wc_RX11_240 : Jvm.Cond.constantLong RX11 240 (Int64.ofInt 1000000000000000) ∈ gtbl := tg (tb_5 (List.mem_of_getElem? (i := 81) rfl)) rfl
theorem wc_RX11_242 : Jvm.Cond.constantLong RX11 242 (Int64.ofInt (-3)) ∈ gtbl := tg (tb_5 (List.mem_of_getElem? (i := 82) rfl)) rfl
theorem wc_RX12_168 : Jvm.Cond.constantLong RX12 168 (Int64.ofInt 97) ∈ gtbl := tg (tb_8 (List.mem_of_getElem? (i := 49) rfl)) rfl
theorem wc_RX12_170 : Jvm.Cond.constantLong RX12 170 (Int64.ofInt 122) ∈ gtbl := tg (tb_8 (List.mem_of_getElem? (i := 50) rfl)) rfl
theorem wc_RX12_172 : Jvm.Cond.constantLong RX12 172 (Int64.ofInt 48) ∈ gtbl := tg (tb_8 (List.mem_of_getElem? (i := 51) rfl)) rfl
theorem wc_RX12_174 : Jvm.Cond.constantLong RX12 174 (Int64.ofInt 57) ∈ gtbl := tg (tb_8 (List.mem_of_getElem? (i := 52) rfl)) rfl
theorem wc_RX12_185 : Jvm.Cond.constantLong RX12 185 (Int64.ofInt 65) ∈ gtbl := tg (tb_8 (List.mem_of_getElem? (i := 54) rfl)) rfl
theorem wc_RX12_187 : Jvm.Cond.constantLong RX12 187 (Int64.ofInt 76) ∈ gtbl := tg (tb_8 (List.mem_of_getElem? (i := 55) rfl)) rfl
theorem wc_RX12_275 : Jvm.Cond.constantLong RX12 275 (Int64.ofInt (-1)) ∈ gtbl := tg (tb_8 (List.mem_of_getElem? (i := 142) rfl)) rfl
theorem wc_RX12_277 : Jvm.Cond.constantLong RX12 277 (Int64.ofInt 99) ∈ gtbl := tg (tb_8 (List.mem_of_getElem? (i := 147) rfl)) rfl
theorem wc_RX12_286 : Jvm.Cond.constant RX12 286 (Int32.ofInt 1000000000) ∈ gtbl := tg (tb_8 (List.mem_of_getElem? (i := 169) rfl)) rfl
theorem wc_RX12_316 : Jvm.Cond.constantLong RX12 316 (Int64.ofInt 11) ∈ gtbl := tg (tb_8 (List.mem_of_getElem? (i := 160) rfl)) rfl
theorem wc_RX12_327 : Jvm.Cond.constantLong RX12 327 (Int64.ofInt 1000000000000001) ∈ gtbl := tg (tb_9 (List.mem_of_getElem? (i := 6) rfl)) rfl
theorem wc_RX12_332 : Jvm.Cond.constantLong RX12 332 (Int64.ofInt 1000000000000000) ∈ gtbl := tg (tb_9 (List.mem_of_getElem? (i := 13) rfl)) rfl
theorem wc_RX12_362 : Jvm.Cond.constantLong RX12 362 (Int64.ofInt (-2)) ∈ gtbl := tg (tb_8 (List.mem_of_getElem? (i := 209) rfl)) rfl
theorem wc_RX12_367 : Jvm.Cond.constantLong RX12 367 (Int64.ofInt (-5)) ∈ gtbl := tg (tb_8 (List.mem_of_getElem? (i := 234) rfl)) rfl
theorem wc_RX12_369 : Jvm.Cond.constantLong RX12 369 (Int64.ofInt (-3)) ∈ gtbl := tg (tb_9 (List.mem_of_getElem? (i := 14) rfl)) rfl
theorem wc_RX12_392 : Jvm.Cond.constantLong RX12 392 (Int64.ofInt 9973) ∈ gtbl := tg (tb_9 (List.mem_of_getElem? (i := 71) rfl)) rfl
theorem wc_RX12_454 : Jvm.Cond.constantLong RX12 454 (Int64.ofInt 2) ∈ gtbl := tg (tb_9 (List.mem_of_getElem? (i := 127) rfl)) rfl
theorem wc_RX12_463 : Jvm.Cond.constantLong RX12 463 (Int64.ofInt 16) ∈ gtbl := tg (tb_9 (List.mem_of_getElem? (i := 153) rfl)) rfl
theorem wc_RX12_465 : Jvm.Cond.constantLong RX12 465 (Int64.ofInt 3) ∈ gtbl := tg (tb_9 (List.mem_of_getElem? (i := 144) rfl)) rfl
theorem wc_RX12_472 : Jvm.Cond.constantLong RX12 472 (Int64.ofInt 9223372036854775807) ∈ gtbl := tg (tb_9 (List.mem_of_getElem? (i := 149) rfl)) rfl
theorem wc_RX12_478 : Jvm.Cond.constantLong RX12 478 (Int64.ofInt 15) ∈ gtbl := tg (tb_9 (List.mem_of_getElem? (i := 154) rfl)) rfl
theorem wc_RX12_569 : Jvm.Cond.constantLong RX12 569 (Int64.ofInt 300) ∈ gtbl := tg (tb_10 (List.mem_of_getElem? (i := 38) rfl)) rfl
theorem wc_RX2_74 : Jvm.Cond.constantLong RX2 74 (Int64.ofInt (-5)) ∈ gtbl := tg (tb_5 (List.mem_of_getElem? (i := 53) rfl)) rfl
theorem wc_RX2_138 : Jvm.Cond.constantLong RX2 138 (Int64.ofInt (-1)) ∈ gtbl := tg (tb_5 (List.mem_of_getElem? (i := 107) rfl)) rfl
theorem wc_RX8_77 : Jvm.Cond.constantLong RX8 77 (Int64.ofInt 1000000000000001) ∈ gtbl := tg (tb_5 (List.mem_of_getElem? (i := 58) rfl)) rfl
theorem wc_RX8_122 : Jvm.Cond.constantLong RX8 122 (Int64.ofInt 2147483648) ∈ gtbl := tg (tb_5 (List.mem_of_getElem? (i := 57) rfl)) rfl
