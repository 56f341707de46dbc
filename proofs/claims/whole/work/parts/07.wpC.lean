def wp_X11_putFour_l3 (Q : Int → St → Prop) : Nat → Int → Int → St → Prop
  | 0, _, _, _ => False
  | n + 1, x1, x2, σ =>
    ((x2 < 0) →
    Q 0 σ) ∧
    (¬ (x2 < 0) →
    ((σ 0 1 ≥ 1000) →
    Q 0 σ) ∧
    (¬ (σ 0 1 ≥ 1000) →
    (0 ≤ σ 0 1 ∧ σ 0 1 < 1000) ∧ ∀ σ1 : St, σ1 = upS σ 1 (σ 0 1).toNat (b_and (b_ushr x1 x2) 255) →
    ∀ σ2 : St, σ2 = upS σ1 0 1 (w32 ((σ1 0 1) + 1)) →
    ∀ v3 : Int, v3 = w32 (x2 + (-8)) →
    (wp_X11_putFour_l3 Q n) x1 v3 σ2))
def wp_X11_putFour (x1 : Int) (σ : St) (Q : Int → St → Prop) : Prop :=
 wp_X11_putFour_l3 Q bigN x1 24 σ
def wp_X11_feed (x1 : Int) (x2 : Int) (x3 : Int) (x4 : Int) (x5 : Int) (σ : St) (Q : Int → St → Prop) : Prop :=
 ((w32 ((σ 0 1) + 20) ≤ 1000) →
 wp_X11_putFour x1 σ (fun r1 σ2 =>
 wp_X11_putFour x2 σ2 (fun r3 σ4 =>
 wp_X11_putFour x3 σ4 (fun r5 σ6 =>
 wp_X11_putFour x4 σ6 (fun r7 σ8 =>
 wp_X11_putFour x5 σ8 (fun r9 σ10 =>
 Q (σ10 0 1) σ10)))))) ∧
 (¬ (w32 ((σ 0 1) + 20) ≤ 1000) →
 Q ((-1)) σ)
def wp_X11_end (x1 : Int) (σ : St) (Q : Int → St → Prop) : Prop :=
 ((x1 < 0) →
 Q ((-1)) σ) ∧
 (¬ (x1 < 0) →
 ((x1 ≤ σ 0 1) →
 ∀ σ1 : St, σ1 = upS σ 0 1 x1 →
 Q x1 σ1) ∧
 (¬ (x1 ≤ σ 0 1) →
 Q ((-1)) σ))
def wp_X4_clear_d_b57 (Q : Int → St → Prop) (K22 : Int → St → Prop) (x1 : Int) (s0 : Int) (s1 : Int) (σ : St) : Prop :=
 (0 ≤ s1 ∧ s1 < 25) ∧ ∀ σ6 : St, σ6 = upS σ 12 s1.toNat s0 →
 ∀ v7 : Int, v7 = w32 (x1 + 1) →
 K22 v7 σ6
def wp_X4_clear_d_b41 (Q : Int → St → Prop) (K22 : Int → St → Prop) (x1 : Int) (s0 : Int) (s1 : Int) (σ : St) : Prop :=
 (0 ≤ s1 ∧ s1 < 25) ∧ ∀ σ5 : St, σ5 = upS σ 11 s1.toNat s0 →
 ((x1 ≠ 3) →
 wp_X4_clear_d_b57 Q K22 x1 0 x1 σ5) ∧
 (¬ (x1 ≠ 3) →
 wp_X4_clear_d_b57 Q K22 x1 1 x1 σ5)
def wp_X4_clear_d_l22 (Q : Int → St → Prop) : Nat → Int → St → Prop
  | 0, _, _ => False
  | n + 1, x1, σ =>
    ((x1 ≥ 4) →
    Q 0 σ) ∧
    (¬ (x1 ≥ 4) →
    ((x1 ≠ 0) →
    wp_X4_clear_d_b41 Q (wp_X4_clear_d_l22 Q n) x1 1 x1 σ) ∧
    (¬ (x1 ≠ 0) →
    wp_X4_clear_d_b41 Q (wp_X4_clear_d_l22 Q n) x1 0 x1 σ))
def wp_X4_clear_d (σ : St) (Q : Int → St → Prop) : Prop :=
 ∀ σ1 : St, σ1 = upS σ 4 0 0 →
 ∀ σ2 : St, σ2 = upS σ1 4 7 2 →
 ∀ σ3 : St, σ3 = upS σ2 4 8 0 →
 ∀ σ4 : St, σ4 = upS σ3 4 9 1 →
 wp_X4_clear_d_l22 Q bigN 0 σ4
def wp_X6_isBlank_b12 (Q : Int → St → Prop) (σ : St) : Prop :=
 Q 1 σ
def wp_X6_isBlank (x0 : Int) (σ : St) (Q : Int → St → Prop) : Prop :=
 ((x0 = 32) →
 wp_X6_isBlank_b12 Q σ) ∧
 (¬ (x0 = 32) →
 ((x0 ≠ 10) →
 Q 0 σ) ∧
 (¬ (x0 ≠ 10) →
 wp_X6_isBlank_b12 Q σ))
def wp_X6_isSmall_b16 (Q : Int → St → Prop) (σ : St) : Prop :=
 Q 0 σ
def wp_X6_isSmall (x0 : Int) (σ : St) (Q : Int → St → Prop) : Prop :=
 ((x0 < 97) →
 wp_X6_isSmall_b16 Q σ) ∧
 (¬ (x0 < 97) →
 ((x0 > 122) →
 wp_X6_isSmall_b16 Q σ) ∧
 (¬ (x0 > 122) →
 Q 1 σ))
def wp_X6_isDigit_b16 (Q : Int → St → Prop) (σ : St) : Prop :=
 Q 0 σ
def wp_X6_isDigit (x0 : Int) (σ : St) (Q : Int → St → Prop) : Prop :=
 ((x0 < 48) →
 wp_X6_isDigit_b16 Q σ) ∧
 (¬ (x0 < 48) →
 ((x0 > 57) →
 wp_X6_isDigit_b16 Q σ) ∧
 (¬ (x0 > 57) →
 Q 1 σ))
def wp_X6_advance_l91 (Q : Int → St → Prop) : Nat → St → Prop
  | 0, _ => False
  | n + 1, σ =>
    ((σ 3 7 ≥ σ 3 4) →
    Q 0 σ) ∧
    (¬ (σ 3 7 ≥ σ 3 4) →
    (0 ≤ σ 3 7 ∧ σ 3 7 < 1000) ∧
    wp_X6_isSmall (σ 1 ((σ 3 7).toNat)) σ (fun r19 σ20 =>
    ((r19 = 0) →
    Q 0 σ20) ∧
    (¬ (r19 = 0) →
    ∀ σ21 : St, σ21 = upS σ20 3 7 (w32 ((σ20 3 7) + 1)) →
    (wp_X6_advance_l91 Q n) σ21)))
def wp_X6_advance_l150 (Q : Int → St → Prop) : Nat → St → Prop
  | 0, _ => False
  | n + 1, σ =>
    ((σ 3 7 ≥ σ 3 4) →
    Q 0 σ) ∧
    (¬ (σ 3 7 ≥ σ 3 4) →
    (0 ≤ σ 3 7 ∧ σ 3 7 < 1000) ∧
    wp_X6_isDigit (σ 1 ((σ 3 7).toNat)) σ (fun r15 σ16 =>
    ((r15 = 0) →
    Q 0 σ16) ∧
    (¬ (r15 = 0) →
    (0 ≤ σ16 3 7 ∧ σ16 3 7 < 1000) ∧
    ∀ σ17 : St, σ17 = upS σ16 3 8 (min (w32 ((w32 ((w32 ((σ16 3 8) * 10)) + (σ16 1 ((σ16 3 7).toNat)))) - 48)) 10000) →
    ∀ σ18 : St, σ18 = upS σ17 3 7 (w32 ((σ17 3 7) + 1)) →
    (wp_X6_advance_l150 Q n) σ18)))
def wp_X6_advance_b39 (Q : Int → St → Prop) (σ : St) : Prop :=
 ∀ σ4 : St, σ4 = upS σ 3 6 (σ 3 7) →
 ∀ σ5 : St, σ5 = upS σ4 3 8 0 →
 ((σ5 3 7 < σ5 3 4) →
 (0 ≤ σ5 3 7 ∧ σ5 3 7 < 1000) ∧
 wp_X6_isSmall (σ5 1 ((σ5 3 7).toNat)) σ5 (fun r6 σ7 =>
 ((r6 = 0) →
 (0 ≤ σ7 3 7 ∧ σ7 3 7 < 1000) ∧
 wp_X6_isDigit (σ7 1 ((σ7 3 7).toNat)) σ7 (fun r8 σ9 =>
 ((r8 = 0) →
 ∀ σ10 : St, σ10 = upS σ9 3 5 3 →
 ∀ σ11 : St, σ11 = upS σ10 3 7 (w32 ((σ10 3 7) + 1)) →
 Q 0 σ11) ∧
 (¬ (r8 = 0) →
 ∀ σ12 : St, σ12 = upS σ9 3 5 2 →
 wp_X6_advance_l150 Q bigN σ12))) ∧
 (¬ (r6 = 0) →
 ∀ σ13 : St, σ13 = upS σ7 3 5 1 →
 wp_X6_advance_l91 Q bigN σ13))) ∧
 (¬ (σ5 3 7 < σ5 3 4) →
 ∀ σ14 : St, σ14 = upS σ5 3 5 0 →
 Q 0 σ14)
def wp_X6_advance_l0 (Q : Int → St → Prop) : Nat → St → Prop
  | 0, _ => False
  | n + 1, σ =>
    ((σ 3 7 ≥ σ 3 4) →
    wp_X6_advance_b39 Q σ) ∧
    (¬ (σ 3 7 ≥ σ 3 4) →
    (0 ≤ σ 3 7 ∧ σ 3 7 < 1000) ∧
    wp_X6_isBlank (σ 1 ((σ 3 7).toNat)) σ (fun r1 σ2 =>
    ((r1 = 0) →
    wp_X6_advance_b39 Q σ2) ∧
    (¬ (r1 = 0) →
    ∀ σ3 : St, σ3 = upS σ2 3 7 (w32 ((σ2 3 7) + 1)) →
    (wp_X6_advance_l0 Q n) σ3)))
def wp_X6_advance (σ : St) (Q : Int → St → Prop) : Prop :=
 wp_X6_advance_l0 Q bigN σ
def wp_X6_isWord_s0_l28 (Q : Int → St → Prop) : Nat → Int → St → Prop
  | 0, _, _ => False
  | n + 1, x2, σ =>
    ((x2 ≥ 4) →
    Q 1 σ) ∧
    (¬ (x2 ≥ 4) →
    (0 ≤ w32 ((σ 3 6) + x2) ∧ w32 ((σ 3 6) + x2) < 1000) ∧
    (0 ≤ x2 ∧ x2 < 4) ∧
    ((σ 1 ((w32 ((σ 3 6) + x2)).toNat) = (strO 0).2.2.2.getD x2.toNat 0) →
    ∀ v1 : Int, v1 = w32 (x2 + 1) →
    (wp_X6_isWord_s0_l28 Q n) v1 σ) ∧
    (¬ (σ 1 ((w32 ((σ 3 6) + x2)).toNat) = (strO 0).2.2.2.getD x2.toNat 0) →
    Q 0 σ))
def wp_X6_isWord_s0 (σ : St) (Q : Int → St → Prop) : Prop :=
 ((σ 3 5 ≠ 1) →
 Q 0 σ) ∧
 (¬ (σ 3 5 ≠ 1) →
 ((w32 ((σ 3 7) - (σ 3 6)) = 4) →
 wp_X6_isWord_s0_l28 Q bigN 0 σ) ∧
 (¬ (w32 ((σ 3 7) - (σ 3 6)) = 4) →
 Q 0 σ))
def wp_X6_isWord_s3_l28 (Q : Int → St → Prop) : Nat → Int → St → Prop
  | 0, _, _ => False
  | n + 1, x2, σ =>
    ((x2 ≥ 5) →
    Q 1 σ) ∧
    (¬ (x2 ≥ 5) →
    (0 ≤ w32 ((σ 3 6) + x2) ∧ w32 ((σ 3 6) + x2) < 1000) ∧
    (0 ≤ x2 ∧ x2 < 5) ∧
    ((σ 1 ((w32 ((σ 3 6) + x2)).toNat) = (strO 3).2.2.2.getD x2.toNat 0) →
    ∀ v1 : Int, v1 = w32 (x2 + 1) →
    (wp_X6_isWord_s3_l28 Q n) v1 σ) ∧
    (¬ (σ 1 ((w32 ((σ 3 6) + x2)).toNat) = (strO 3).2.2.2.getD x2.toNat 0) →
    Q 0 σ))
def wp_X6_isWord_s3 (σ : St) (Q : Int → St → Prop) : Prop :=
 ((σ 3 5 ≠ 1) →
 Q 0 σ) ∧
 (¬ (σ 3 5 ≠ 1) →
 ((w32 ((σ 3 7) - (σ 3 6)) = 5) →
 wp_X6_isWord_s3_l28 Q bigN 0 σ) ∧
 (¬ (w32 ((σ 3 7) - (σ 3 6)) = 5) →
 Q 0 σ))
def wp_X6_fail (x1 : Int) (σ : St) (Q : Int → St → Prop) : Prop :=
 ((σ 3 2 ≠ 0) →
 Q 0 σ) ∧
 (¬ (σ 3 2 ≠ 0) →
 ∀ σ1 : St, σ1 = upS σ 3 2 x1 →
 ∀ σ2 : St, σ2 = upS σ1 3 3 (σ1 3 6) →
 Q 0 σ2)
def wp_X6_readNumber_b52 (Q : Int → St → Prop) (s0 : Int) (σ : St) : Prop :=
 wp_X6_advance σ (fun r5 σ6 =>
 Q s0 σ6)
def wp_X6_readNumber_b37 (Q : Int → St → Prop) (σ : St) : Prop :=
 ((σ 3 2 ≠ 0) →
 wp_X6_readNumber_b52 Q 0 σ) ∧
 (¬ (σ 3 2 ≠ 0) →
 wp_X6_readNumber_b52 Q (σ 3 8) σ)
def wp_X6_readNumber_b32 (Q : Int → St → Prop) (σ : St) : Prop :=
 wp_X6_fail 2 σ (fun r3 σ4 =>
 wp_X6_readNumber_b37 Q σ4)
def wp_X6_readNumber (x1 : Int) (x2 : Int) (σ : St) (Q : Int → St → Prop) : Prop :=
 ((σ 3 5 = 2) →
 ((σ 3 8 < x1) →
 wp_X6_readNumber_b32 Q σ) ∧
 (¬ (σ 3 8 < x1) →
 ((σ 3 8 ≤ x2) →
 wp_X6_readNumber_b37 Q σ) ∧
 (¬ (σ 3 8 ≤ x2) →
 wp_X6_readNumber_b32 Q σ))) ∧
 (¬ (σ 3 5 = 2) →
 wp_X6_fail 1 σ (fun r1 σ2 =>
 wp_X6_readNumber_b37 Q σ2))
def wp_X6_isWord_s4_l28 (Q : Int → St → Prop) : Nat → Int → St → Prop
  | 0, _, _ => False
  | n + 1, x2, σ =>
    ((x2 ≥ 4) →
    Q 1 σ) ∧
    (¬ (x2 ≥ 4) →
    (0 ≤ w32 ((σ 3 6) + x2) ∧ w32 ((σ 3 6) + x2) < 1000) ∧
    (0 ≤ x2 ∧ x2 < 4) ∧
    ((σ 1 ((w32 ((σ 3 6) + x2)).toNat) = (strO 4).2.2.2.getD x2.toNat 0) →
    ∀ v1 : Int, v1 = w32 (x2 + 1) →
    (wp_X6_isWord_s4_l28 Q n) v1 σ) ∧
    (¬ (σ 1 ((w32 ((σ 3 6) + x2)).toNat) = (strO 4).2.2.2.getD x2.toNat 0) →
    Q 0 σ))
def wp_X6_isWord_s4 (σ : St) (Q : Int → St → Prop) : Prop :=
 ((σ 3 5 ≠ 1) →
 Q 0 σ) ∧
 (¬ (σ 3 5 ≠ 1) →
 ((w32 ((σ 3 7) - (σ 3 6)) = 4) →
 wp_X6_isWord_s4_l28 Q bigN 0 σ) ∧
 (¬ (w32 ((σ 3 7) - (σ 3 6)) = 4) →
 Q 0 σ))
def wp_X6_passWord_s4 (σ : St) (Q : Int → St → Prop) : Prop :=
 wp_X6_isWord_s4 σ (fun r1 σ2 =>
 ((r1 ≠ 0) →
 wp_X6_advance σ2 (fun r3 σ4 =>
 Q 0 σ4)) ∧
 (¬ (r1 ≠ 0) →
 wp_X6_fail 1 σ2 (fun r5 σ6 =>
 wp_X6_advance σ6 (fun r7 σ8 =>
 Q 0 σ8))))
def wp_X6_isWord_s5_l28 (Q : Int → St → Prop) : Nat → Int → St → Prop
  | 0, _, _ => False
  | n + 1, x2, σ =>
    ((x2 ≥ 3) →
    Q 1 σ) ∧
    (¬ (x2 ≥ 3) →
    (0 ≤ w32 ((σ 3 6) + x2) ∧ w32 ((σ 3 6) + x2) < 1000) ∧
    (0 ≤ x2 ∧ x2 < 3) ∧
    ((σ 1 ((w32 ((σ 3 6) + x2)).toNat) = (strO 5).2.2.2.getD x2.toNat 0) →
    ∀ v1 : Int, v1 = w32 (x2 + 1) →
    (wp_X6_isWord_s5_l28 Q n) v1 σ) ∧
    (¬ (σ 1 ((w32 ((σ 3 6) + x2)).toNat) = (strO 5).2.2.2.getD x2.toNat 0) →
    Q 0 σ))
def wp_X6_isWord_s5 (σ : St) (Q : Int → St → Prop) : Prop :=
 ((σ 3 5 ≠ 1) →
 Q 0 σ) ∧
 (¬ (σ 3 5 ≠ 1) →
 ((w32 ((σ 3 7) - (σ 3 6)) = 3) →
 wp_X6_isWord_s5_l28 Q bigN 0 σ) ∧
 (¬ (w32 ((σ 3 7) - (σ 3 6)) = 3) →
 Q 0 σ))
def wp_X6_passWord_s5 (σ : St) (Q : Int → St → Prop) : Prop :=
 wp_X6_isWord_s5 σ (fun r1 σ2 =>
 ((r1 ≠ 0) →
 wp_X6_advance σ2 (fun r3 σ4 =>
 Q 0 σ4)) ∧
 (¬ (r1 ≠ 0) →
 wp_X6_fail 1 σ2 (fun r5 σ6 =>
 wp_X6_advance σ6 (fun r7 σ8 =>
 Q 0 σ8))))
def wp_X6_isWord_s6_l28 (Q : Int → St → Prop) : Nat → Int → St → Prop
  | 0, _, _ => False
  | n + 1, x2, σ =>
    ((x2 ≥ 4) →
    Q 1 σ) ∧
    (¬ (x2 ≥ 4) →
    (0 ≤ w32 ((σ 3 6) + x2) ∧ w32 ((σ 3 6) + x2) < 1000) ∧
    (0 ≤ x2 ∧ x2 < 4) ∧
    ((σ 1 ((w32 ((σ 3 6) + x2)).toNat) = (strO 6).2.2.2.getD x2.toNat 0) →
    ∀ v1 : Int, v1 = w32 (x2 + 1) →
    (wp_X6_isWord_s6_l28 Q n) v1 σ) ∧
    (¬ (σ 1 ((w32 ((σ 3 6) + x2)).toNat) = (strO 6).2.2.2.getD x2.toNat 0) →
    Q 0 σ))
def wp_X6_isWord_s6 (σ : St) (Q : Int → St → Prop) : Prop :=
 ((σ 3 5 ≠ 1) →
 Q 0 σ) ∧
 (¬ (σ 3 5 ≠ 1) →
 ((w32 ((σ 3 7) - (σ 3 6)) = 4) →
 wp_X6_isWord_s6_l28 Q bigN 0 σ) ∧
 (¬ (w32 ((σ 3 7) - (σ 3 6)) = 4) →
 Q 0 σ))
def wp_X6_passWord_s6 (σ : St) (Q : Int → St → Prop) : Prop :=
 wp_X6_isWord_s6 σ (fun r1 σ2 =>
 ((r1 ≠ 0) →
 wp_X6_advance σ2 (fun r3 σ4 =>
 Q 0 σ4)) ∧
 (¬ (r1 ≠ 0) →
 wp_X6_fail 1 σ2 (fun r5 σ6 =>
 wp_X6_advance σ6 (fun r7 σ8 =>
 Q 0 σ8))))
def wp_X6_readRow_c11_l23 (Q : Int → St → Prop) : Nat → Int → Int → St → Prop
  | 0, _, _, _ => False
  | n + 1, x2, x3, σ =>
    ((x3 ≥ x2) →
    Q 0 σ) ∧
    (¬ (x3 ≥ x2) →
    ((σ 3 2 ≠ 0) →
    Q 0 σ) ∧
    (¬ (σ 3 2 ≠ 0) →
    wp_X6_readNumber 0 (w32 ((σ 4 7) - 1)) σ (fun r2 σ3 =>
    (0 ≤ x3 ∧ x3 < 25) ∧ ∀ σ4 : St, σ4 = upS σ3 11 x3.toNat r2 →
    ∀ v5 : Int, v5 = w32 (x3 + 1) →
    (wp_X6_readRow_c11_l23 Q n) x2 v5 σ4)))
def wp_X6_readRow_c11 (σ : St) (Q : Int → St → Prop) : Prop :=
 ∀ v1 : Int, v1 = min (w32 ((σ 4 7) * (σ 4 7))) 25 →
 wp_X6_readRow_c11_l23 Q bigN v1 0 σ
def wp_X6_isWord_s7_l28 (Q : Int → St → Prop) : Nat → Int → St → Prop
  | 0, _, _ => False
  | n + 1, x2, σ =>
    ((x2 ≥ 5) →
    Q 1 σ) ∧
    (¬ (x2 ≥ 5) →
    (0 ≤ w32 ((σ 3 6) + x2) ∧ w32 ((σ 3 6) + x2) < 1000) ∧
    (0 ≤ x2 ∧ x2 < 5) ∧
    ((σ 1 ((w32 ((σ 3 6) + x2)).toNat) = (strO 7).2.2.2.getD x2.toNat 0) →
    ∀ v1 : Int, v1 = w32 (x2 + 1) →
    (wp_X6_isWord_s7_l28 Q n) v1 σ) ∧
    (¬ (σ 1 ((w32 ((σ 3 6) + x2)).toNat) = (strO 7).2.2.2.getD x2.toNat 0) →
    Q 0 σ))
def wp_X6_isWord_s7 (σ : St) (Q : Int → St → Prop) : Prop :=
 ((σ 3 5 ≠ 1) →
 Q 0 σ) ∧
 (¬ (σ 3 5 ≠ 1) →
 ((w32 ((σ 3 7) - (σ 3 6)) = 5) →
 wp_X6_isWord_s7_l28 Q bigN 0 σ) ∧
 (¬ (w32 ((σ 3 7) - (σ 3 6)) = 5) →
 Q 0 σ))
def wp_X6_passWord_s7 (σ : St) (Q : Int → St → Prop) : Prop :=
 wp_X6_isWord_s7 σ (fun r1 σ2 =>
 ((r1 ≠ 0) →
 wp_X6_advance σ2 (fun r3 σ4 =>
 Q 0 σ4)) ∧
 (¬ (r1 ≠ 0) →
 wp_X6_fail 1 σ2 (fun r5 σ6 =>
 wp_X6_advance σ6 (fun r7 σ8 =>
 Q 0 σ8))))
def wp_X6_readRow_c12_l23 (Q : Int → St → Prop) : Nat → Int → Int → St → Prop
  | 0, _, _, _ => False
  | n + 1, x2, x3, σ =>
    ((x3 ≥ x2) →
    Q 0 σ) ∧
    (¬ (x3 ≥ x2) →
    ((σ 3 2 ≠ 0) →
    Q 0 σ) ∧
    (¬ (σ 3 2 ≠ 0) →
    wp_X6_readNumber 0 (w32 ((σ 4 7) - 1)) σ (fun r2 σ3 =>
    (0 ≤ x3 ∧ x3 < 25) ∧ ∀ σ4 : St, σ4 = upS σ3 12 x3.toNat r2 →
    ∀ v5 : Int, v5 = w32 (x3 + 1) →
    (wp_X6_readRow_c12_l23 Q n) x2 v5 σ4)))
def wp_X6_readRow_c12 (σ : St) (Q : Int → St → Prop) : Prop :=
 ∀ v1 : Int, v1 = min (w32 ((σ 4 7) * (σ 4 7))) 25 →
 wp_X6_readRow_c12_l23 Q bigN v1 0 σ
def wp_X6_readTable (σ : St) (Q : Int → St → Prop) : Prop :=
 wp_X6_advance σ (fun r1 σ2 =>
 wp_X6_readNumber 2 5 σ2 (fun r3 σ4 =>
 ∀ σ5 : St, σ5 = upS σ4 4 7 r3 →
 wp_X6_passWord_s4 σ5 (fun r6 σ7 =>
 wp_X6_readNumber 0 (w32 ((σ7 4 7) - 1)) σ7 (fun r8 σ9 =>
 ∀ σ10 : St, σ10 = upS σ9 4 8 r8 →
 wp_X6_passWord_s5 σ10 (fun r11 σ12 =>
 wp_X6_readNumber 0 (w32 ((σ12 4 7) - 1)) σ12 (fun r13 σ14 =>
 ∀ σ15 : St, σ15 = upS σ14 4 9 r13 →
 wp_X6_passWord_s6 σ15 (fun r16 σ17 =>
 wp_X6_readRow_c11 σ17 (fun r18 σ19 =>
 wp_X6_passWord_s7 σ19 (fun r20 σ21 =>
 wp_X6_readRow_c12 σ21 (fun r22 σ23 =>
 Q 0 σ23))))))))))
def wp_X6_isLabel_b40 (Q : Int → St → Prop) (σ : St) : Prop :=
 Q 0 σ
def wp_X6_isLabel (σ : St) (Q : Int → St → Prop) : Prop :=
 ((σ 3 5 ≠ 3) →
 wp_X6_isLabel_b40 Q σ) ∧
 (¬ (σ 3 5 ≠ 3) →
 (0 ≤ σ 3 6 ∧ σ 3 6 < 1000) ∧
 ((σ 1 ((σ 3 6).toNat) < 65) →
 wp_X6_isLabel_b40 Q σ) ∧
 (¬ (σ 1 ((σ 3 6).toNat) < 65) →
 (0 ≤ σ 3 6 ∧ σ 3 6 < 1000) ∧
 ((σ 1 ((σ 3 6).toNat) ≥ 77) →
 wp_X6_isLabel_b40 Q σ) ∧
 (¬ (σ 1 ((σ 3 6).toNat) ≥ 77) →
 Q 1 σ)))
def wp_X6_isLetter_b25 (Q : Int → St → Prop) (σ : St) : Prop :=
 Q 0 σ
def wp_X6_isLetter (σ : St) (Q : Int → St → Prop) : Prop :=
 ((σ 3 5 ≠ 1) →
 wp_X6_isLetter_b25 Q σ) ∧
 (¬ (σ 3 5 ≠ 1) →
 ((w32 ((σ 3 7) - (σ 3 6)) ≠ 1) →
 wp_X6_isLetter_b25 Q σ) ∧
 (¬ (w32 ((σ 3 7) - (σ 3 6)) ≠ 1) →
 Q 1 σ))
def wp_X6_readPart_b60 (Q : Int → St → Prop) (x2 : Int) (σ : St) : Prop :=
 wp_X6_advance σ (fun r9 σ10 =>
 Q x2 σ10)
def wp_X6_readPart_b55 (Q : Int → St → Prop) (x2 : Int) (σ : St) : Prop :=
 wp_X6_fail 1 σ (fun r7 σ8 =>
 wp_X6_readPart_b60 Q x2 σ8)
def wp_X6_readPart (x1 : Int) (σ : St) (Q : Int → St → Prop) : Prop :=
 wp_X6_isLabel σ (fun r1 σ2 =>
 ((r1 = 0) →
 wp_X6_isLetter σ2 (fun r3 σ4 =>
 ((r3 = 0) →
 wp_X6_readPart_b55 Q 0 σ4) ∧
 (¬ (r3 = 0) →
 ((x1 ≠ 0) →
 wp_X6_readPart_b55 Q 0 σ4) ∧
 (¬ (x1 ≠ 0) →
 (0 ≤ σ4 3 6 ∧ σ4 3 6 < 1000) ∧
 ∀ v5 : Int, v5 = w32 ((w32 (100 + (σ4 1 ((σ4 3 6).toNat)))) - 97) →
 wp_X6_readPart_b60 Q v5 σ4)))) ∧
 (¬ (r1 = 0) →
 (0 ≤ σ2 3 6 ∧ σ2 3 6 < 1000) ∧
 ∀ v6 : Int, v6 = w32 ((σ2 1 ((σ2 3 6).toNat)) - 65) →
 wp_X6_readPart_b60 Q v6 σ2))
def wp_X6_passSign_b21 (Q : Int → St → Prop) (σ : St) : Prop :=
 wp_X6_fail 1 σ (fun r3 σ4 =>
 wp_X6_advance σ4 (fun r5 σ6 =>
 Q 0 σ6))
def wp_X6_passSign (x1 : Int) (σ : St) (Q : Int → St → Prop) : Prop :=
 ((σ 3 5 ≠ 3) →
 wp_X6_passSign_b21 Q σ) ∧
 (¬ (σ 3 5 ≠ 3) →
 (0 ≤ σ 3 6 ∧ σ 3 6 < 1000) ∧
 ((σ 1 ((σ 3 6).toNat) = x1) →
 wp_X6_advance σ (fun r1 σ2 =>
 Q 0 σ2)) ∧
 (¬ (σ 1 ((σ 3 6).toNat) = x1) →
 wp_X6_passSign_b21 Q σ))
def wp_X6_isWord_s1_l28 (Q : Int → St → Prop) : Nat → Int → St → Prop
  | 0, _, _ => False
  | n + 1, x2, σ =>
    ((x2 ≥ 4) →
    Q 1 σ) ∧
    (¬ (x2 ≥ 4) →
    (0 ≤ w32 ((σ 3 6) + x2) ∧ w32 ((σ 3 6) + x2) < 1000) ∧
    (0 ≤ x2 ∧ x2 < 4) ∧
    ((σ 1 ((w32 ((σ 3 6) + x2)).toNat) = (strO 1).2.2.2.getD x2.toNat 0) →
    ∀ v1 : Int, v1 = w32 (x2 + 1) →
    (wp_X6_isWord_s1_l28 Q n) v1 σ) ∧
    (¬ (σ 1 ((w32 ((σ 3 6) + x2)).toNat) = (strO 1).2.2.2.getD x2.toNat 0) →
    Q 0 σ))
def wp_X6_isWord_s1 (σ : St) (Q : Int → St → Prop) : Prop :=
 ((σ 3 5 ≠ 1) →
 Q 0 σ) ∧
 (¬ (σ 3 5 ≠ 1) →
 ((w32 ((σ 3 7) - (σ 3 6)) = 4) →
 wp_X6_isWord_s1_l28 Q bigN 0 σ) ∧
 (¬ (w32 ((σ 3 7) - (σ 3 6)) = 4) →
 Q 0 σ))
def wp_X6_isWord_s2_l28 (Q : Int → St → Prop) : Nat → Int → St → Prop
  | 0, _, _ => False
  | n + 1, x2, σ =>
    ((x2 ≥ 2) →
    Q 1 σ) ∧
    (¬ (x2 ≥ 2) →
    (0 ≤ w32 ((σ 3 6) + x2) ∧ w32 ((σ 3 6) + x2) < 1000) ∧
    (0 ≤ x2 ∧ x2 < 2) ∧
    ((σ 1 ((w32 ((σ 3 6) + x2)).toNat) = (strO 2).2.2.2.getD x2.toNat 0) →
    ∀ v1 : Int, v1 = w32 (x2 + 1) →
    (wp_X6_isWord_s2_l28 Q n) v1 σ) ∧
    (¬ (σ 1 ((w32 ((σ 3 6) + x2)).toNat) = (strO 2).2.2.2.getD x2.toNat 0) →
    Q 0 σ))
def wp_X6_isWord_s2 (σ : St) (Q : Int → St → Prop) : Prop :=
 ((σ 3 5 ≠ 1) →
 Q 0 σ) ∧
 (¬ (σ 3 5 ≠ 1) →
 ((w32 ((σ 3 7) - (σ 3 6)) = 2) →
 wp_X6_isWord_s2_l28 Q bigN 0 σ) ∧
 (¬ (w32 ((σ 3 7) - (σ 3 6)) = 2) →
 Q 0 σ))
def wp_X6_readRule_b181 (Q : Int → St → Prop) (x1 : Int) (σ : St) : Prop :=
 ∀ σ37 : St, σ37 = upS σ 4 0 (w32 (x1 + 1)) →
 Q 0 σ37
def wp_X6_readRule_b129 (Q : Int → St → Prop) (x1 : Int) (σ : St) : Prop :=
 (0 ≤ x1 ∧ x1 < 40) ∧ ∀ σ29 : St, σ29 = upS σ 9 x1.toNat (σ 4 9) →
 wp_X6_isWord_s2 σ29 (fun r30 σ31 =>
 ((r30 = 0) →
 wp_X6_readRule_b181 Q x1 σ31) ∧
 (¬ (r30 = 0) →
 wp_X6_advance σ31 (fun r32 σ33 =>
 wp_X6_readNumber 0 (w32 ((σ33 4 7) - 1)) σ33 (fun r34 σ35 =>
 (0 ≤ x1 ∧ x1 < 40) ∧ ∀ σ36 : St, σ36 = upS σ35 9 x1.toNat r34 →
 wp_X6_readRule_b181 Q x1 σ36))))
def wp_X6_readRule_b89 (Q : Int → St → Prop) (x1 : Int) (s0 : Int) (s1 : Int) (σ : St) : Prop :=
 (0 ≤ s1 ∧ s1 < 40) ∧ ∀ σ20 : St, σ20 = upS σ 7 s1.toNat s0 →
 (0 ≤ x1 ∧ x1 < 40) ∧ ∀ σ21 : St, σ21 = upS σ20 8 x1.toNat 1 →
 wp_X6_isWord_s1 σ21 (fun r22 σ23 =>
 ((r22 = 0) →
 wp_X6_readRule_b129 Q x1 σ23) ∧
 (¬ (r22 = 0) →
 wp_X6_advance σ23 (fun r24 σ25 =>
 wp_X6_readNumber 1 99 σ25 (fun r26 σ27 =>
 (0 ≤ x1 ∧ x1 < 40) ∧ ∀ σ28 : St, σ28 = upS σ27 8 x1.toNat r26 →
 wp_X6_readRule_b129 Q x1 σ28))))
def wp_X6_readRule_b80 (Q : Int → St → Prop) (x1 : Int) (s0 : Int) (σ : St) : Prop :=
 wp_X6_readPart 0 σ (fun r18 σ19 =>
 wp_X6_readRule_b89 Q x1 r18 s0 σ19)
def wp_X6_readRule (σ : St) (Q : Int → St → Prop) : Prop :=
 ∀ v1 : Int, v1 = σ 4 0 →
 ((v1 < 40) →
 wp_X6_advance σ (fun r2 σ3 =>
 wp_X6_readPart 1 σ3 (fun r4 σ5 =>
 (0 ≤ v1 ∧ v1 < 40) ∧ ∀ σ6 : St, σ6 = upS σ5 5 v1.toNat r4 →
 wp_X6_passSign 61 σ6 (fun r7 σ8 =>
 wp_X6_readPart 0 σ8 (fun r9 σ10 =>
 (0 ≤ v1 ∧ v1 < 40) ∧ ∀ σ11 : St, σ11 = upS σ10 6 v1.toNat r9 →
 wp_X6_isLabel σ11 (fun r12 σ13 =>
 ((r12 ≠ 0) →
 wp_X6_readRule_b80 Q v1 v1 σ13) ∧
 (¬ (r12 ≠ 0) →
 wp_X6_isLetter σ13 (fun r14 σ15 =>
 ((r14 = 0) →
 wp_X6_readRule_b89 Q v1 ((-1)) v1 σ15) ∧
 (¬ (r14 = 0) →
 wp_X6_readRule_b80 Q v1 v1 σ15))))))))) ∧
 (¬ (v1 < 40) →
 wp_X6_fail 3 σ (fun r16 σ17 =>
 Q 0 σ17))
def wp_X6_read_b96 (Q : Int → St → Prop) (K33 : Int → St → Prop) (x2 : Int) (σ : St) : Prop :=
 wp_X6_passSign 59 σ (fun r19 σ20 =>
 ∀ v21 : Int, v21 = w32 (x2 + 1) →
 K33 v21 σ20)
def wp_X6_read_b91 (Q : Int → St → Prop) (K33 : Int → St → Prop) (x2 : Int) (σ : St) : Prop :=
 wp_X6_fail 1 σ (fun r17 σ18 =>
 wp_X6_read_b96 Q K33 x2 σ18)
def wp_X6_read_l33 (Q : Int → St → Prop) : Nat → Int → St → Prop
  | 0, _, _ => False
  | n + 1, x2, σ =>
    ((x2 > σ 3 4) →
    Q 0 σ) ∧
    (¬ (x2 > σ 3 4) →
    ((σ 3 5 = 0) →
    Q 0 σ) ∧
    (¬ (σ 3 5 = 0) →
    ((σ 3 2 ≠ 0) →
    Q 0 σ) ∧
    (¬ (σ 3 2 ≠ 0) →
    wp_X6_isWord_s0 σ (fun r9 σ10 =>
    ((r9 = 0) →
    ((x2 ≠ 0) →
    wp_X6_read_b91 Q (wp_X6_read_l33 Q n) x2 σ10) ∧
    (¬ (x2 ≠ 0) →
    wp_X6_isWord_s3 σ10 (fun r11 σ12 =>
    ((r11 = 0) →
    wp_X6_read_b91 Q (wp_X6_read_l33 Q n) x2 σ12) ∧
    (¬ (r11 = 0) →
    wp_X6_readTable σ12 (fun r13 σ14 =>
    wp_X6_read_b96 Q (wp_X6_read_l33 Q n) x2 σ14))))) ∧
    (¬ (r9 = 0) →
    wp_X6_readRule σ10 (fun r15 σ16 =>
    wp_X6_read_b96 Q (wp_X6_read_l33 Q n) x2 σ16))))))
def wp_X6_read (x1 : Int) (σ : St) (Q : Int → St → Prop) : Prop :=
 ∀ σ1 : St, σ1 = upS σ 3 4 x1 →
 ∀ σ2 : St, σ2 = upS σ1 3 7 0 →
 ∀ σ3 : St, σ3 = upS σ2 3 2 0 →
 ∀ σ4 : St, σ4 = upS σ3 3 3 ((-1)) →
 wp_X4_clear_d σ4 (fun r5 σ6 =>
 wp_X6_advance σ6 (fun r7 σ8 =>
 wp_X6_read_l33 Q bigN 0 σ8))
def wp_X4_take_c4_l115 (Q : Int → St → Prop) : Nat → Int → St → Prop
  | 0, _, _ => False
  | n + 1, x2, σ =>
    ((x2 ≥ 25) →
    Q 0 σ) ∧
    (¬ (x2 ≥ 25) →
    (0 ≤ x2 ∧ x2 < 25) ∧
    (0 ≤ x2 ∧ x2 < 25) ∧ ∀ σ12 : St, σ12 = upS σ 21 x2.toNat (σ 11 (x2.toNat)) →
    (0 ≤ x2 ∧ x2 < 25) ∧
    (0 ≤ x2 ∧ x2 < 25) ∧ ∀ σ13 : St, σ13 = upS σ12 22 x2.toNat (σ12 12 (x2.toNat)) →
    ∀ v14 : Int, v14 = w32 (x2 + 1) →
    (wp_X4_take_c4_l115 Q n) v14 σ13)
def wp_X4_take_c4_l34 (Q : Int → St → Prop) : Nat → Int → St → Prop
  | 0, _, _ => False
  | n + 1, x2, σ =>
    ((x2 ≥ 40) →
    wp_X4_take_c4_l115 Q bigN 0 σ) ∧
    (¬ (x2 ≥ 40) →
    (0 ≤ x2 ∧ x2 < 40) ∧
    (0 ≤ x2 ∧ x2 < 40) ∧ ∀ σ5 : St, σ5 = upS σ 15 x2.toNat (σ 5 (x2.toNat)) →
    (0 ≤ x2 ∧ x2 < 40) ∧
    (0 ≤ x2 ∧ x2 < 40) ∧ ∀ σ6 : St, σ6 = upS σ5 16 x2.toNat (σ5 6 (x2.toNat)) →
    (0 ≤ x2 ∧ x2 < 40) ∧
    (0 ≤ x2 ∧ x2 < 40) ∧ ∀ σ7 : St, σ7 = upS σ6 17 x2.toNat (σ6 7 (x2.toNat)) →
    (0 ≤ x2 ∧ x2 < 40) ∧
    (0 ≤ x2 ∧ x2 < 40) ∧ ∀ σ8 : St, σ8 = upS σ7 18 x2.toNat (σ7 8 (x2.toNat)) →
    (0 ≤ x2 ∧ x2 < 40) ∧
    (0 ≤ x2 ∧ x2 < 40) ∧ ∀ σ9 : St, σ9 = upS σ8 19 x2.toNat (σ8 9 (x2.toNat)) →
    (0 ≤ x2 ∧ x2 < 40) ∧ ∀ σ10 : St, σ10 = upS σ9 20 x2.toNat (b_and 0 1) →
    ∀ v11 : Int, v11 = w32 (x2 + 1) →
    (wp_X4_take_c4_l34 Q n) v11 σ10)
def wp_X4_take_c4 (σ : St) (Q : Int → St → Prop) : Prop :=
 ∀ σ1 : St, σ1 = upS σ 14 0 (σ 4 0) →
 ∀ σ2 : St, σ2 = upS σ1 14 7 (σ1 4 7) →
 ∀ σ3 : St, σ3 = upS σ2 14 8 (σ2 4 8) →
 ∀ σ4 : St, σ4 = upS σ3 14 9 (σ3 4 9) →
 wp_X4_take_c4_l34 Q bigN 0 σ4
def wp_X0_forget (σ : St) (Q : Int → St → Prop) : Prop :=
 ∀ σ1 : St, σ1 = upS σ 24 17 0 →
 Q 0 σ1
def wp_X2_forget (σ : St) (Q : Int → St → Prop) : Prop :=
 ∀ σ1 : St, σ1 = upS σ 41 6 0 →
 ∀ σ2 : St, σ2 = upS σ1 41 7 0 →
 ∀ σ3 : St, σ3 = upS σ2 41 8 0 →
 Q 0 σ3
def wp_X9_forget (σ : St) (Q : Int → St → Prop) : Prop :=
 ∀ σ1 : St, σ1 = upS σ 50 6 0 →
 Q 0 σ1
def wp_X1_forget (σ : St) (Q : Int → St → Prop) : Prop :=
 ∀ σ1 : St, σ1 = upS σ 36 7 0 →
 ∀ σ2 : St, σ2 = upS σ1 36 8 0 →
 ∀ σ3 : St, σ3 = upS σ2 36 9 0 →
 Q 0 σ3
def wp_X7_forget (σ : St) (Q : Int → St → Prop) : Prop :=
 ∀ σ1 : St, σ1 = upS σ 45 7 0 →
 Q 0 σ1
def wp_X3_forget_l2 (Q : Int → St → Prop) : Nat → Int → St → Prop
  | 0, _, _ => False
  | n + 1, x1, σ =>
    ((x1 ≥ 36) →
    Q 0 σ) ∧
    (¬ (x1 ≥ 36) →
    (0 ≤ x1 ∧ x1 < 36) ∧ ∀ σ1 : St, σ1 = upS σ 60 x1.toNat (b_and 0 1) →
    ∀ v2 : Int, v2 = w32 (x1 + 1) →
    (wp_X3_forget_l2 Q n) v2 σ1)
def wp_X3_forget (σ : St) (Q : Int → St → Prop) : Prop :=
 wp_X3_forget_l2 Q bigN 0 σ
def wp_J7_fill_53178_C_c77_l5 (Q : Int → St → Prop) : Nat → Int → Int → Int → St → Prop
  | 0, _, _, _, _ => False
  | n + 1, x1, x2, x3, σ =>
    ((x2 ≥ x3) →
    Q 0 σ) ∧
    (¬ (x2 ≥ x3) →
    (0 ≤ x2 ∧ x2 < 36) ∧ ∀ σ1 : St, σ1 = upS σ 77 x2.toNat x1 →
    ∀ v2 : Int, v2 = w32 (x2 + 1) →
    (wp_J7_fill_53178_C_c77_l5 Q n) x1 v2 x3 σ1)
def wp_J7_fill_53178_C_c77 (x1 : Int) (σ : St) (Q : Int → St → Prop) : Prop :=
 wp_J7_fill_53178_C_c77_l5 Q bigN x1 0 36 σ
def wp_J7_fill_53178_C_c78_l5 (Q : Int → St → Prop) : Nat → Int → Int → Int → St → Prop
  | 0, _, _, _, _ => False
  | n + 1, x1, x2, x3, σ =>
    ((x2 ≥ x3) →
    Q 0 σ) ∧
    (¬ (x2 ≥ x3) →
    (0 ≤ x2 ∧ x2 < 432) ∧ ∀ σ1 : St, σ1 = upS σ 78 x2.toNat x1 →
    ∀ v2 : Int, v2 = w32 (x2 + 1) →
    (wp_J7_fill_53178_C_c78_l5 Q n) x1 v2 x3 σ1)
def wp_J7_fill_53178_C_c78 (x1 : Int) (σ : St) (Q : Int → St → Prop) : Prop :=
 wp_J7_fill_53178_C_c78_l5 Q bigN x1 0 432 σ
def wp_J7_fill_d0a16_C_c79_l6 (Q : Int → St → Prop) : Nat → Int → Int → Int → St → Prop
  | 0, _, _, _, _ => False
  | n + 1, x1, x3, x4, σ =>
    ((x3 ≥ x4) →
    Q 0 σ) ∧
    (¬ (x3 ≥ x4) →
    (0 ≤ x3 ∧ x3 < 432) ∧ ∀ σ1 : St, σ1 = upS σ 79 x3.toNat x1 →
    ∀ v2 : Int, v2 = w32 (x3 + 1) →
    (wp_J7_fill_d0a16_C_c79_l6 Q n) x1 v2 x4 σ1)
def wp_J7_fill_d0a16_C_c79 (x1 : Int) (σ : St) (Q : Int → St → Prop) : Prop :=
 wp_J7_fill_d0a16_C_c79_l6 Q bigN x1 0 432 σ
def wp_X8_forget (σ : St) (Q : Int → St → Prop) : Prop :=
 wp_J7_fill_53178_C_c77 0 σ (fun r1 σ2 =>
 wp_J7_fill_53178_C_c78 0 σ2 (fun r3 σ4 =>
 wp_J7_fill_d0a16_C_c79 0 σ4 (fun r5 σ6 =>
 Q 0 σ6)))
def wp_X5_forget (σ : St) (Q : Int → St → Prop) : Prop :=
 ∀ σ1 : St, σ1 = upS σ 80 9 0 →
 Q 0 σ1
def wp_X11_forgetCosts (σ : St) (Q : Int → St → Prop) : Prop :=
 wp_X1_forget σ (fun r1 σ2 =>
 wp_X7_forget σ2 (fun r3 σ4 =>
 wp_X3_forget σ4 (fun r5 σ6 =>
 wp_X8_forget σ6 (fun r7 σ8 =>
 wp_X5_forget σ8 (fun r9 σ10 =>
 Q 0 σ10)))))
def wp_X11_forgetCases (σ : St) (Q : Int → St → Prop) : Prop :=
 wp_X0_forget σ (fun r1 σ2 =>
 wp_X2_forget σ2 (fun r3 σ4 =>
 wp_X9_forget σ4 (fun r5 σ6 =>
 wp_X11_forgetCosts σ6 (fun r7 σ8 =>
 Q 0 σ8))))
def wp_X11_grammar (σ : St) (Q : Int → St → Prop) : Prop :=
 wp_X6_read (σ 0 1) σ (fun r1 σ2 =>
 ∀ σ3 : St, σ3 = upS σ2 0 1 0 →
 ((σ3 3 2 = 0) →
 wp_X4_take_c4 σ3 (fun r4 σ5 =>
 wp_X11_forgetCases σ5 (fun r6 σ7 =>
 Q (σ7 14 0) σ7))) ∧
 (¬ (σ3 3 2 = 0) →
 Q ((-4)) σ3))
def wp_X11_fault (x1 : Int) (σ : St) (Q : Int → St → Prop) : Prop :=
 (x1 = 0 →
 Q (σ 3 2) σ) ∧
 (x1 = 1 →
 Q (σ 3 3) σ) ∧
 (¬ x1 = 0 ∧ ¬ x1 = 1 →
 Q ((-1)) σ)
def wp_X11_lettersAlone_l2 (Q : Int → St → Prop) : Nat → Int → Int → St → Prop
  | 0, _, _, _ => False
  | n + 1, x1, x2, σ =>
    ((x2 ≥ x1) →
    Q 1 σ) ∧
    (¬ (x2 ≥ x1) →
    (0 ≤ x2 ∧ x2 < 1000) ∧
    wp_X6_isSmall (σ 1 (x2.toNat)) σ (fun r1 σ2 =>
    ((r1 ≠ 0) →
    ∀ v3 : Int, v3 = w32 (x2 + 1) →
    (wp_X11_lettersAlone_l2 Q n) x1 v3 σ2) ∧
    (¬ (r1 ≠ 0) →
    Q 0 σ2)))
def wp_X11_lettersAlone (x1 : Int) (σ : St) (Q : Int → St → Prop) : Prop :=
 wp_X11_lettersAlone_l2 Q bigN x1 0 σ
def wp_X0_hear_c1_l17 (Q : Int → St → Prop) : Nat → Int → St → Prop
  | 0, _, _ => False
  | n + 1, x3, σ =>
    ((x3 ≥ σ 24 2) →
    Q 0 σ) ∧
    (¬ (x3 ≥ σ 24 2) →
    (0 ≤ x3 ∧ x3 < 1000) ∧
    (0 ≤ x3 ∧ x3 < 8) ∧ ∀ σ2 : St, σ2 = upS σ 25 x3.toNat (w32 ((σ 1 (x3.toNat)) - 97)) →
    ∀ v3 : Int, v3 = w32 (x3 + 1) →
    (wp_X0_hear_c1_l17 Q n) v3 σ2)
def wp_X0_hear_c1 (x2 : Int) (σ : St) (Q : Int → St → Prop) : Prop :=
 ∀ σ1 : St, σ1 = upS σ 24 2 (min (min x2 8) 1000) →
 wp_X0_hear_c1_l17 Q bigN 0 σ1
def wp_X11_say (σ : St) (Q : Int → St → Prop) : Prop :=
 ∀ v1 : Int, v1 = σ 0 1 →
 ∀ σ2 : St, σ2 = upS σ 0 1 0 →
 ((v1 > 8) →
 Q ((-4)) σ2) ∧
 (¬ (v1 > 8) →
 wp_X11_lettersAlone v1 σ2 (fun r3 σ4 =>
 ((r3 ≠ 0) →
 wp_X0_hear_c1 v1 σ4 (fun r5 σ6 =>
 wp_X11_forgetCases σ6 (fun r7 σ8 =>
 Q v1 σ8))) ∧
 (¬ (r3 ≠ 0) →
 Q ((-4)) σ4)))
def wp_X4_start (σ : St) (Q : Int → St → Prop) : Prop :=
 ((σ 14 0 ≠ 0) →
 Q (σ 15 (Int.toNat 0)) σ) ∧
 (¬ (σ 14 0 ≠ 0) →
 Q ((-1)) σ)
def wp_X0_layOutSpans_l17 (Q : Int → St → Prop) (K7 : Int → St → Prop) : Nat → Int → Int → St → Prop
  | 0, _, _, _ => False
  | n + 1, x1, x2, σ =>
    ((w32 (x2 + x1) > σ 24 2) →
    ∀ v2 : Int, v2 = w32 (x1 + 1) →
    K7 v2 σ) ∧
    (¬ (w32 (x2 + x1) > σ 24 2) →
    (0 ≤ σ 24 3 ∧ σ 24 3 < 36) ∧ ∀ σ3 : St, σ3 = upS σ 26 (σ 24 3).toNat x2 →
    (0 ≤ σ3 24 3 ∧ σ3 24 3 < 36) ∧ ∀ σ4 : St, σ4 = upS σ3 27 (σ3 24 3).toNat (w32 (x2 + x1)) →
    (0 ≤ w32 ((w32 ((w32 (x2 * 9)) + x2)) + x1) ∧ w32 ((w32 ((w32 (x2 * 9)) + x2)) + x1) < 81) ∧ ∀ σ5 : St, σ5 = upS σ4 28 (w32 ((w32 ((w32 (x2 * 9)) + x2)) + x1)).toNat (σ4 24 3) →
    ∀ σ6 : St, σ6 = upS σ5 24 3 (w32 ((σ5 24 3) + 1)) →
    ∀ v7 : Int, v7 = w32 (x2 + 1) →
    (wp_X0_layOutSpans_l17 Q K7 n) x1 v7 σ6)
def wp_X0_layOutSpans_l7 (Q : Int → St → Prop) : Nat → Int → St → Prop
  | 0, _, _ => False
  | n + 1, x1, σ =>
    ((x1 > σ 24 2) →
    Q 0 σ) ∧
    (¬ (x1 > σ 24 2) →
    wp_X0_layOutSpans_l17 Q (wp_X0_layOutSpans_l7 Q n) bigN x1 0 σ)
def wp_X0_layOutSpans (σ : St) (Q : Int → St → Prop) : Prop :=
 ∀ σ1 : St, σ1 = upS σ 24 3 0 →
 wp_X0_layOutSpans_l7 Q bigN 1 σ1
def wp_X4_isUnary_b25 (Q : Int → St → Prop) (σ : St) : Prop :=
 Q 0 σ
def wp_X4_isUnary (x1 : Int) (σ : St) (Q : Int → St → Prop) : Prop :=
 (0 ≤ x1 ∧ x1 < 40) ∧
 ((σ 17 (x1.toNat) ≠ (-1)) →
 wp_X4_isUnary_b25 Q σ) ∧
 (¬ (σ 17 (x1.toNat) ≠ (-1)) →
 (0 ≤ x1 ∧ x1 < 40) ∧
 ((σ 16 (x1.toNat) ≥ 100) →
 wp_X4_isUnary_b25 Q σ) ∧
 (¬ (σ 16 (x1.toNat) ≥ 100) →
 Q 1 σ))
def wp_X0_gatherLive_b107 (Q : Int → St → Prop) (K12 : Int → St → Prop) (K20 : Int → Int → St → Prop) (x1 : Int) (x2 : Int) (σ : St) : Prop :=
 ∀ v10 : Int, v10 = w32 (x2 + 1) →
 K20 x1 v10 σ
def wp_X0_gatherLive_l20 (Q : Int → St → Prop) (K12 : Int → St → Prop) : Nat → Int → Int → St → Prop
  | 0, _, _, _ => False
  | n + 1, x1, x2, σ =>
    ((x2 ≥ σ 14 0) →
    ∀ v3 : Int, v3 = w32 (x1 + 1) →
    K12 v3 σ) ∧
    (¬ (x2 ≥ σ 14 0) →
    (0 ≤ x2 ∧ x2 < 40) ∧
    ((σ 15 (x2.toNat) ≠ x1) →
    wp_X0_gatherLive_b107 Q K12 (wp_X0_gatherLive_l20 Q K12 n) x1 x2 σ) ∧
    (¬ (σ 15 (x2.toNat) ≠ x1) →
    (0 ≤ x2 ∧ x2 < 40) ∧
    ((σ 20 (x2.toNat) ≠ 0) →
    wp_X0_gatherLive_b107 Q K12 (wp_X0_gatherLive_l20 Q K12 n) x1 x2 σ) ∧
    (¬ (σ 20 (x2.toNat) ≠ 0) →
    (0 ≤ σ 24 14 ∧ σ 24 14 < 40) ∧ ∀ σ4 : St, σ4 = upS σ 34 (σ 24 14).toNat x2 →
    ∀ σ5 : St, σ5 = upS σ4 24 14 (w32 ((σ4 24 14) + 1)) →
    wp_X4_isUnary x2 σ5 (fun r6 σ7 =>
    ((r6 = 0) →
    wp_X0_gatherLive_b107 Q K12 (wp_X0_gatherLive_l20 Q K12 n) x1 x2 σ7) ∧
    (¬ (r6 = 0) →
    (0 ≤ σ7 24 12 ∧ σ7 24 12 < 40) ∧ ∀ σ8 : St, σ8 = upS σ7 33 (σ7 24 12).toNat x2 →
    ∀ σ9 : St, σ9 = upS σ8 24 12 (w32 ((σ8 24 12) + 1)) →
    wp_X0_gatherLive_b107 Q K12 (wp_X0_gatherLive_l20 Q K12 n) x1 x2 σ9)))))
def wp_X0_gatherLive_l12 (Q : Int → St → Prop) : Nat → Int → St → Prop
  | 0, _, _ => False
  | n + 1, x1, σ =>
    ((x1 ≥ 12) →
    Q 0 σ) ∧
    (¬ (x1 ≥ 12) →
    wp_X0_gatherLive_l20 Q (wp_X0_gatherLive_l12 Q n) bigN x1 0 σ)
def wp_X0_gatherLive (σ : St) (Q : Int → St → Prop) : Prop :=
 ∀ σ1 : St, σ1 = upS σ 24 14 0 →
 ∀ σ2 : St, σ2 = upS σ1 24 12 0 →
 wp_X0_gatherLive_l12 Q bigN 0 σ2
def wp_X0_partOver_b47 (Q : Int → St → Prop) (σ : St) : Prop :=
 Q ((-2)) σ
def wp_X0_partOver (x1 : Int) (x2 : Int) (x3 : Int) (σ : St) (Q : Int → St → Prop) : Prop :=
 ((x1 ≥ 100) →
 ((x3 ≠ w32 (x2 + 1)) →
 wp_X0_partOver_b47 Q σ) ∧
 (¬ (x3 ≠ w32 (x2 + 1)) →
 (0 ≤ x2 ∧ x2 < 8) ∧
 ((σ 25 (x2.toNat) ≠ w32 (x1 - 100)) →
 wp_X0_partOver_b47 Q σ) ∧
 (¬ (σ 25 (x2.toNat) ≠ w32 (x1 - 100)) →
 Q ((-1)) σ))) ∧
 (¬ (x1 ≥ 100) →
 (0 ≤ w32 ((w32 (x2 * 9)) + x3) ∧ w32 ((w32 (x2 * 9)) + x3) < 81) ∧
 Q (w32 ((w32 ((σ 28 ((w32 ((w32 (x2 * 9)) + x3)).toNat)) * 12)) + x1)) σ)
def wp_X0_addCase (x1 : Int) (x2 : Int) (x3 : Int) (x4 : Int) (σ : St) (Q : Int → St → Prop) : Prop :=
 ((x3 = (-2)) →
 Q 0 σ) ∧
 (¬ (x3 = (-2)) →
 ((x4 = (-2)) →
 Q 0 σ) ∧
 (¬ (x4 = (-2)) →
 ((σ 24 16 < 3360) →
 (0 ≤ σ 24 16 ∧ σ 24 16 < 3360) ∧ ∀ σ1 : St, σ1 = upS σ 29 (σ 24 16).toNat x1 →
 (0 ≤ σ1 24 16 ∧ σ1 24 16 < 3360) ∧ ∀ σ2 : St, σ2 = upS σ1 30 (σ1 24 16).toNat x2 →
 (0 ≤ σ2 24 16 ∧ σ2 24 16 < 3360) ∧ ∀ σ3 : St, σ3 = upS σ2 31 (σ2 24 16).toNat x3 →
 (0 ≤ σ3 24 16 ∧ σ3 24 16 < 3360) ∧ ∀ σ4 : St, σ4 = upS σ3 32 (σ3 24 16).toNat x4 →
 ∀ σ5 : St, σ5 = upS σ4 24 16 (w32 ((σ4 24 16) + 1)) →
 Q 0 σ5) ∧
 (¬ (σ 24 16 < 3360) →
 Q 0 σ)))
def wp_X0_addCases_l57 (Q : Int → St → Prop) : Nat → Int → Int → Int → Int → St → Prop
  | 0, _, _, _, _, _ => False
  | n + 1, x2, x3, x4, x5, σ =>
    ((x5 ≥ x4) →
    Q 0 σ) ∧
    (¬ (x5 ≥ x4) →
    (0 ≤ x2 ∧ x2 < 40) ∧
    wp_X0_partOver (σ 16 (x2.toNat)) x3 x5 σ (fun r8 σ9 =>
    (0 ≤ x2 ∧ x2 < 40) ∧
    wp_X0_partOver (σ9 17 (x2.toNat)) x5 x4 σ9 (fun r10 σ11 =>
    wp_X0_addCase x2 x5 r8 r10 σ11 (fun r12 σ13 =>
    ∀ v14 : Int, v14 = w32 (x5 + 1) →
    (wp_X0_addCases_l57 Q n) x2 x3 x4 v14 σ13))))
def wp_X0_addCases (x1 : Int) (x2 : Int) (σ : St) (Q : Int → St → Prop) : Prop :=
 (0 ≤ x1 ∧ x1 < 36) ∧
 ∀ v1 : Int, v1 = σ 26 (x1.toNat) →
 (0 ≤ x1 ∧ x1 < 36) ∧
 ∀ v2 : Int, v2 = σ 27 (x1.toNat) →
 (0 ≤ x2 ∧ x2 < 40) ∧
 ((σ 17 (x2.toNat) ≠ (-1)) →
 ∀ v3 : Int, v3 = w32 (v1 + 1) →
 wp_X0_addCases_l57 Q bigN x2 v1 v2 v3 σ) ∧
 (¬ (σ 17 (x2.toNat) ≠ (-1)) →
 (0 ≤ x2 ∧ x2 < 40) ∧
 wp_X0_partOver (σ 16 (x2.toNat)) v1 v2 σ (fun r4 σ5 =>
 wp_X0_addCase x2 ((-1)) r4 ((-1)) σ5 (fun r6 σ7 =>
 Q 0 σ7)))
def wp_X0_addSpan_l28 (Q : Int → St → Prop) (K4 : Int → Int → Int → St → Prop) : Nat → Int → Int → Int → Int → St → Prop
  | 0, _, _, _, _, _ => False
  | n + 1, x1, x2, x3, x4, σ =>
    ((x2 > x4) →
    (0 ≤ x3 ∧ x3 < 40) ∧
    wp_X0_addCases x1 (σ 34 (x3.toNat)) σ (fun r4 σ5 =>
    ∀ v6 : Int, v6 = w32 (x3 + 1) →
    K4 x1 x2 v6 σ5)) ∧
    (¬ (x2 > x4) →
    (0 ≤ w32 ((w32 (x1 * 12)) + x2) ∧ w32 ((w32 (x1 * 12)) + x2) < 433) ∧ ∀ σ7 : St, σ7 = upS σ 35 (w32 ((w32 (x1 * 12)) + x2)).toNat (σ 24 16) →
    ∀ v8 : Int, v8 = w32 (x2 + 1) →
    (wp_X0_addSpan_l28 Q K4 n) x1 v8 x3 x4 σ7)
def wp_X0_addSpan_l72 (Q : Int → St → Prop) : Nat → Int → Int → St → Prop
  | 0, _, _, _ => False
  | n + 1, x1, x2, σ =>
    ((x2 ≥ 12) →
    Q 0 σ) ∧
    (¬ (x2 ≥ 12) →
    (0 ≤ w32 ((w32 (x1 * 12)) + x2) ∧ w32 ((w32 (x1 * 12)) + x2) < 433) ∧ ∀ σ2 : St, σ2 = upS σ 35 (w32 ((w32 (x1 * 12)) + x2)).toNat (σ 24 16) →
    ∀ v3 : Int, v3 = w32 (x2 + 1) →
    (wp_X0_addSpan_l72 Q n) x1 v3 σ2)
def wp_X0_addSpan_l4 (Q : Int → St → Prop) : Nat → Int → Int → Int → St → Prop
  | 0, _, _, _, _ => False
  | n + 1, x1, x2, x3, σ =>
    ((x3 ≥ σ 24 14) →
    wp_X0_addSpan_l72 Q bigN x1 x2 σ) ∧
    (¬ (x3 ≥ σ 24 14) →
    (0 ≤ x3 ∧ x3 < 40) ∧
    (0 ≤ σ 34 (x3.toNat) ∧ σ 34 (x3.toNat) < 40) ∧
    ∀ v1 : Int, v1 = σ 15 ((σ 34 (x3.toNat)).toNat) →
    wp_X0_addSpan_l28 Q (wp_X0_addSpan_l4 Q n) bigN x1 x2 x3 v1 σ)
def wp_X0_addSpan (x1 : Int) (σ : St) (Q : Int → St → Prop) : Prop :=
 wp_X0_addSpan_l4 Q bigN x1 0 0 σ
def wp_X0_build_l28 (Q : Int → St → Prop) : Nat → Int → St → Prop
  | 0, _, _ => False
  | n + 1, x1, σ =>
    ((x1 ≥ σ 24 3) →
    (0 ≤ w32 ((σ 24 3) * 12) ∧ w32 ((σ 24 3) * 12) < 433) ∧ ∀ σ7 : St, σ7 = upS σ 35 (w32 ((σ 24 3) * 12)).toNat (σ 24 16) →
    Q 0 σ7) ∧
    (¬ (x1 ≥ σ 24 3) →
    wp_X0_addSpan x1 σ (fun r8 σ9 =>
    ∀ v10 : Int, v10 = w32 (x1 + 1) →
    (wp_X0_build_l28 Q n) v10 σ9))
def wp_X0_build (σ : St) (Q : Int → St → Prop) : Prop :=
 ((σ 24 17 = 0) →
 ∀ σ1 : St, σ1 = upS σ 24 17 1 →
 wp_X0_layOutSpans σ1 (fun r2 σ3 =>
 wp_X0_gatherLive σ3 (fun r4 σ5 =>
 ∀ σ6 : St, σ6 = upS σ5 24 16 0 →
 wp_X0_build_l28 Q bigN 0 σ6))) ∧
 (¬ (σ 24 17 = 0) →
 Q 0 σ)
def wp_X0_caseStart (x1 : Int) (σ : St) (Q : Int → St → Prop) : Prop :=
 (0 ≤ x1 ∧ x1 < 433) ∧
 Q (σ 35 (x1.toNat)) σ
def wp_X0_caseEnd (x1 : Int) (σ : St) (Q : Int → St → Prop) : Prop :=
 (0 ≤ w32 (x1 + 1) ∧ w32 (x1 + 1) < 433) ∧
 Q (σ 35 ((w32 (x1 + 1)).toNat)) σ
def wp_X0_goesOn_b23 (Q : Int → St → Prop) (σ : St) : Prop :=
 Q 0 σ
def wp_X0_goesOn (x1 : Int) (σ : St) (Q : Int → St → Prop) : Prop :=
 (0 ≤ x1 ∧ x1 < 3360) ∧
 ((σ 30 (x1.toNat) ≠ (-1)) →
 wp_X0_goesOn_b23 Q σ) ∧
 (¬ (σ 30 (x1.toNat) ≠ (-1)) →
 (0 ≤ x1 ∧ x1 < 3360) ∧
 ((σ 31 (x1.toNat) < 0) →
 wp_X0_goesOn_b23 Q σ) ∧
 (¬ (σ 31 (x1.toNat) < 0) →
 Q 1 σ))
def wp_X1_join (x0 : Int) (x1 : Int) (x2 : Int) (σ : St) (Q : Int → St → Prop) : Prop :=
 ((x2 = 0) →
 Q (max x0 x1) σ) ∧
 (¬ (x2 = 0) →
 Q (w32 (x0 + x1)) σ)
def wp_X1_lesser_b10 (Q : Int → St → Prop) (x1 : Int) (σ : St) : Prop :=
 Q x1 σ
def wp_X1_lesser (x0 : Int) (x1 : Int) (σ : St) (Q : Int → St → Prop) : Prop :=
 ((x0 = (-1)) →
 wp_X1_lesser_b10 Q x1 σ) ∧
 (¬ (x0 = (-1)) →
 ((x1 ≥ x0) →
 Q x0 σ) ∧
 (¬ (x1 ≥ x0) →
 wp_X1_lesser_b10 Q x1 σ))
def wp_X1_leastOfCases_c37_b159 (Q : Int → St → Prop) (K13 : Int → Int → Int → Int → Int → St → Prop) (x2 : Int) (x3 : Int) (x4 : Int) (x5 : Int) (x6 : Int) (σ : St) : Prop :=
 ∀ v8 : Int, v8 = w32 (x6 + 1) →
 K13 x2 x3 x4 x5 v8 σ
def wp_X1_leastOfCases_c37_b116 (Q : Int → St → Prop) (K13 : Int → Int → Int → Int → Int → St → Prop) (x2 : Int) (x3 : Int) (x4 : Int) (x5 : Int) (x6 : Int) (x7 : Int) (x8 : Int) (s0 : Int) (σ : St) : Prop :=
 ((x8 < 0) →
 wp_X1_leastOfCases_c37_b159 Q K13 x2 x3 x4 x5 x6 σ) ∧
 (¬ (x8 < 0) →
 ((s0 < 0) →
 wp_X1_leastOfCases_c37_b159 Q K13 x2 x3 x4 x5 x6 σ) ∧
 (¬ (s0 < 0) →
 (0 ≤ x7 ∧ x7 < 40) ∧
 wp_X1_join x8 s0 x4 σ (fun r9 σ10 =>
 wp_X1_join (σ 18 (x7.toNat)) r9 x4 σ10 (fun r11 σ12 =>
 wp_X1_lesser x5 r11 σ12 (fun r13 σ14 =>
 wp_X1_leastOfCases_c37_b159 Q K13 x2 x3 x4 r13 x6 σ14)))))
def wp_X1_leastOfCases_c37_b85 (Q : Int → St → Prop) (K13 : Int → Int → Int → Int → Int → St → Prop) (x2 : Int) (x3 : Int) (x4 : Int) (x5 : Int) (x6 : Int) (x7 : Int) (s0 : Int) (σ : St) : Prop :=
 (0 ≤ x6 ∧ x6 < 3360) ∧
 ((σ 32 (x6.toNat) ≥ 0) →
 (0 ≤ x6 ∧ x6 < 3360) ∧
 (0 ≤ σ 32 (x6.toNat) ∧ σ 32 (x6.toNat) < 432) ∧
 wp_X1_leastOfCases_c37_b116 Q K13 x2 x3 x4 x5 x6 x7 s0 (σ 37 ((σ 32 (x6.toNat)).toNat)) σ) ∧
 (¬ (σ 32 (x6.toNat) ≥ 0) →
 wp_X1_leastOfCases_c37_b116 Q K13 x2 x3 x4 x5 x6 x7 s0 0 σ)
def wp_X1_leastOfCases_c37_l13 (Q : Int → St → Prop) : Nat → Int → Int → Int → Int → Int → St → Prop
  | 0, _, _, _, _, _, _ => False
  | n + 1, x2, x3, x4, x5, x6, σ =>
    wp_X0_caseEnd x2 σ (fun r3 σ4 =>
    ((x6 ≥ r3) →
    Q x5 σ4) ∧
    (¬ (x6 ≥ r3) →
    (0 ≤ x6 ∧ x6 < 3360) ∧
    ∀ v5 : Int, v5 = σ4 29 (x6.toNat) →
    ((v5 = x3) →
    wp_X1_leastOfCases_c37_b159 Q (wp_X1_leastOfCases_c37_l13 Q n) x2 x3 x4 x5 x6 σ4) ∧
    (¬ (v5 = x3) →
    wp_X0_goesOn x6 σ4 (fun r6 σ7 =>
    ((r6 ≠ 0) →
    wp_X1_leastOfCases_c37_b159 Q (wp_X1_leastOfCases_c37_l13 Q n) x2 x3 x4 x5 x6 σ7) ∧
    (¬ (r6 ≠ 0) →
    (0 ≤ x6 ∧ x6 < 3360) ∧
    ((σ7 31 (x6.toNat) ≥ 0) →
    (0 ≤ x6 ∧ x6 < 3360) ∧
    (0 ≤ σ7 31 (x6.toNat) ∧ σ7 31 (x6.toNat) < 432) ∧
    wp_X1_leastOfCases_c37_b85 Q (wp_X1_leastOfCases_c37_l13 Q n) x2 x3 x4 x5 x6 v5 (σ7 37 ((σ7 31 (x6.toNat)).toNat)) σ7) ∧
    (¬ (σ7 31 (x6.toNat) ≥ 0) →
    wp_X1_leastOfCases_c37_b85 Q (wp_X1_leastOfCases_c37_l13 Q n) x2 x3 x4 x5 x6 v5 0 σ7))))))
def wp_X1_leastOfCases_c37 (x2 : Int) (x3 : Int) (x4 : Int) (σ : St) (Q : Int → St → Prop) : Prop :=
 wp_X0_caseStart x2 σ (fun r1 σ2 =>
 wp_X1_leastOfCases_c37_l13 Q bigN x2 x3 x4 ((-1)) r1 σ2)
def wp_X1_relax_c37_b122 (Q : Int → St → Prop) (K6 : Int → Int → Int → Int → Int → St → Prop) (x2 : Int) (x3 : Int) (x4 : Int) (x5 : Int) (x6 : Int) (σ : St) : Prop :=
 ∀ v8 : Int, v8 = w32 (x6 + 1) →
 K6 x2 x3 x4 x5 v8 σ
def wp_X1_relax_c37_b113 (Q : Int → St → Prop) (K6 : Int → Int → Int → Int → Int → St → Prop) (x2 : Int) (x3 : Int) (x4 : Int) (x6 : Int) (x9 : Int) (x10 : Int) (s0 : Int) (s1 : Int) (σ : St) : Prop :=
 ∀ v9 : Int, v9 = b_or s1 s0 →
 (0 ≤ x9 ∧ x9 < 432) ∧ ∀ σ10 : St, σ10 = upS σ 37 x9.toNat x10 →
 wp_X1_relax_c37_b122 Q K6 x2 x3 x4 v9 x6 σ10
def wp_X1_relax_c37_l6 (Q : Int → St → Prop) : Nat → Int → Int → Int → Int → Int → St → Prop
  | 0, _, _, _, _, _, _ => False
  | n + 1, x2, x3, x4, x5, x6, σ =>
    ((x6 ≥ σ 24 12) →
    (x5 = 0 ∨ x5 = 1) ∧ Q x5 σ) ∧
    (¬ (x6 ≥ σ 24 12) →
    (0 ≤ x6 ∧ x6 < 40) ∧
    ∀ v1 : Int, v1 = σ 33 (x6.toNat) →
    (0 ≤ v1 ∧ v1 < 40) ∧
    (0 ≤ w32 (x2 + (σ 16 (v1.toNat))) ∧ w32 (x2 + (σ 16 (v1.toNat))) < 432) ∧
    ∀ v2 : Int, v2 = σ 37 ((w32 (x2 + (σ 16 (v1.toNat)))).toNat) →
    (0 ≤ v1 ∧ v1 < 40) ∧
    ∀ v3 : Int, v3 = w32 (x2 + (σ 15 (v1.toNat))) →
    ((v1 = x3) →
    wp_X1_relax_c37_b122 Q (wp_X1_relax_c37_l6 Q n) x2 x3 x4 x5 x6 σ) ∧
    (¬ (v1 = x3) →
    ((v2 < 0) →
    wp_X1_relax_c37_b122 Q (wp_X1_relax_c37_l6 Q n) x2 x3 x4 x5 x6 σ) ∧
    (¬ (v2 < 0) →
    (0 ≤ v3 ∧ v3 < 432) ∧
    (0 ≤ v1 ∧ v1 < 40) ∧
    wp_X1_join (σ 18 (v1.toNat)) v2 x4 σ (fun r4 σ5 =>
    wp_X1_lesser (σ 37 (v3.toNat)) r4 σ5 (fun r6 σ7 =>
    (0 ≤ v3 ∧ v3 < 432) ∧
    ((r6 = σ7 37 (v3.toNat)) →
    wp_X1_relax_c37_b113 Q (wp_X1_relax_c37_l6 Q n) x2 x3 x4 x6 v3 r6 0 x5 σ7) ∧
    (¬ (r6 = σ7 37 (v3.toNat)) →
    wp_X1_relax_c37_b113 Q (wp_X1_relax_c37_l6 Q n) x2 x3 x4 x6 v3 r6 1 x5 σ7))))))
def wp_X1_relax_c37 (x2 : Int) (x3 : Int) (x4 : Int) (σ : St) (Q : Int → St → Prop) : Prop :=
 wp_X1_relax_c37_l6 Q bigN x2 x3 x4 0 0 σ
def wp_X1_fill_c37_b90 (Q : Int → St → Prop) (K3 : Int → Int → Int → St → Prop) (x2 : Int) (x3 : Int) (x4 : Int) (σ : St) : Prop :=
 ∀ v9 : Int, v9 = w32 (x4 + 1) →
 K3 x2 x3 v9 σ
def wp_X1_fill_c37_l61 (Q : Int → St → Prop) (K3 : Int → Int → Int → St → Prop) : Nat → Int → Int → Int → Int → Int → Int → St → Prop
  | 0, _, _, _, _, _, _, _ => False
  | n + 1, x2, x3, x4, x5, x6, x7, σ =>
    ((x7 > 12) →
    wp_X1_fill_c37_b90 Q K3 x2 x3 x4 σ) ∧
    (¬ (x7 > 12) →
    ((x6 = 0) →
    wp_X1_fill_c37_b90 Q K3 x2 x3 x4 σ) ∧
    (¬ (x6 = 0) →
    wp_X1_relax_c37 x5 x2 x3 σ (fun r6 σ7 =>
    ∀ v8 : Int, v8 = w32 (x7 + 1) →
    (wp_X1_fill_c37_l61 Q K3 n) x2 x3 x4 x5 r6 v8 σ7)))
def wp_X1_fill_c37_l26 (Q : Int → St → Prop) (K3 : Int → Int → Int → St → Prop) : Nat → Int → Int → Int → Int → Int → St → Prop
  | 0, _, _, _, _, _, _ => False
  | n + 1, x2, x3, x4, x5, x6, σ =>
    ((x6 ≥ w32 (x5 + 12)) →
    wp_X1_fill_c37_l61 Q K3 bigN x2 x3 x4 x5 1 0 σ) ∧
    (¬ (x6 ≥ w32 (x5 + 12)) →
    wp_X1_leastOfCases_c37 x6 x2 x3 σ (fun r2 σ3 =>
    (0 ≤ x6 ∧ x6 < 432) ∧ ∀ σ4 : St, σ4 = upS σ3 37 x6.toNat r2 →
    ∀ v5 : Int, v5 = w32 (x6 + 1) →
    (wp_X1_fill_c37_l26 Q K3 n) x2 x3 x4 x5 v5 σ4))
def wp_X1_fill_c37_l3 (Q : Int → St → Prop) : Nat → Int → Int → Int → St → Prop
  | 0, _, _, _, _ => False
  | n + 1, x2, x3, x4, σ =>
    ((x4 ≥ σ 24 3) →
    Q 0 σ) ∧
    (¬ (x4 ≥ σ 24 3) →
    ∀ v1 : Int, v1 = w32 (x4 * 12) →
    wp_X1_fill_c37_l26 Q (wp_X1_fill_c37_l3 Q n) bigN x2 x3 x4 v1 v1 σ)
def wp_X1_fill_c37 (x2 : Int) (x3 : Int) (σ : St) (Q : Int → St → Prop) : Prop :=
 wp_X1_fill_c37_l3 Q bigN x2 x3 0 σ
def wp_X1_prepare (σ : St) (Q : Int → St → Prop) : Prop :=
 wp_X0_build σ (fun r1 σ2 =>
 ((σ2 36 7 ≠ 0) →
 Q 0 σ2) ∧
 (¬ (σ2 36 7 ≠ 0) →
 ∀ σ3 : St, σ3 = upS σ2 36 7 1 →
 wp_X1_fill_c37 ((-1)) 1 σ3 (fun r4 σ5 =>
 Q 0 σ5)))
def wp_X0_itemCount (σ : St) (Q : Int → St → Prop) : Prop :=
 Q (w32 ((σ 24 3) * 12)) σ
def wp_X1_has (x1 : Int) (σ : St) (Q : Int → St → Prop) : Prop :=
 (0 ≤ x1 ∧ x1 < 432) ∧
 ((σ 37 (x1.toNat) ≤ 0) →
 Q 0 σ) ∧
 (¬ (σ 37 (x1.toNat) ≤ 0) →
 Q 1 σ)
def wp_X1_itemsWithTrees_b30 (Q : Int → St → Prop) (K8 : Int → Int → St → Prop) (x1 : Int) (x2 : Int) (σ : St) : Prop :=
 ∀ v8 : Int, v8 = w32 (x2 + 1) →
 K8 x1 v8 σ
def wp_X1_itemsWithTrees_l8 (Q : Int → St → Prop) : Nat → Int → Int → St → Prop
  | 0, _, _, _ => False
  | n + 1, x1, x2, σ =>
    wp_X0_itemCount σ (fun r3 σ4 =>
    ((x2 ≥ r3) →
    Q x1 σ4) ∧
    (¬ (x2 ≥ r3) →
    wp_X1_has x2 σ4 (fun r5 σ6 =>
    ((r5 = 0) →
    wp_X1_itemsWithTrees_b30 Q (wp_X1_itemsWithTrees_l8 Q n) x1 x2 σ6) ∧
    (¬ (r5 = 0) →
    ∀ v7 : Int, v7 = w32 (x1 + 1) →
    wp_X1_itemsWithTrees_b30 Q (wp_X1_itemsWithTrees_l8 Q n) v7 x2 σ6))))
def wp_X1_itemsWithTrees (σ : St) (Q : Int → St → Prop) : Prop :=
 wp_X1_prepare σ (fun r1 σ2 =>
 wp_X1_itemsWithTrees_l8 Q bigN 0 0 σ2)
def wp_X4_rulesIn_b24 (Q : Int → St → Prop) (K4 : Int → Int → St → Prop) (x1 : Int) (x2 : Int) (σ : St) : Prop :=
 ∀ v2 : Int, v2 = w32 (x2 + 1) →
 K4 x1 v2 σ
def wp_X4_rulesIn_l4 (Q : Int → St → Prop) : Nat → Int → Int → St → Prop
  | 0, _, _, _ => False
  | n + 1, x1, x2, σ =>
    ((x2 ≥ σ 14 0) →
    Q x1 σ) ∧
    (¬ (x2 ≥ σ 14 0) →
    (0 ≤ x2 ∧ x2 < 40) ∧
    ((σ 20 (x2.toNat) ≠ 0) →
    wp_X4_rulesIn_b24 Q (wp_X4_rulesIn_l4 Q n) x1 x2 σ) ∧
    (¬ (σ 20 (x2.toNat) ≠ 0) →
    ∀ v1 : Int, v1 = w32 (x1 + 1) →
    wp_X4_rulesIn_b24 Q (wp_X4_rulesIn_l4 Q n) v1 x2 σ))
def wp_X4_rulesIn (σ : St) (Q : Int → St → Prop) : Prop :=
 wp_X4_rulesIn_l4 Q bigN 0 0 σ
def wp_X11_count (x1 : Int) (σ : St) (Q : Int → St → Prop) : Prop :=
 (x1 = 0 →
 Q (σ 14 0) σ) ∧
 (x1 = 1 →
 Q (σ 24 2) σ) ∧
 (x1 = 2 →
 wp_X4_start σ (fun r1 σ2 =>
 Q r1 σ2)) ∧
 (x1 = 3 →
 Q (σ 14 7) σ) ∧
 (x1 = 4 →
 Q (σ 14 8) σ) ∧
 (x1 = 5 →
 Q (σ 14 9) σ) ∧
 (x1 = 6 →
 wp_X1_itemsWithTrees σ (fun r3 σ4 =>
 Q r3 σ4)) ∧
 (x1 = 7 →
 Q (σ 0 1) σ) ∧
 (x1 = 8 →
 Q (σ 0 3) σ) ∧
 (x1 = 9 →
 wp_X4_rulesIn σ (fun r5 σ6 =>
 Q r5 σ6)) ∧
 (¬ x1 = 0 ∧ ¬ x1 = 1 ∧ ¬ x1 = 2 ∧ ¬ x1 = 3 ∧ ¬ x1 = 4 ∧ ¬ x1 = 5 ∧ ¬ x1 = 6 ∧ ¬ x1 = 7 ∧ ¬ x1 = 8 ∧ ¬ x1 = 9 →
 Q ((-1)) σ)
def wp_X4_knows_b16 (Q : Int → St → Prop) (σ : St) : Prop :=
 Q 0 σ
def wp_X4_knows (x1 : Int) (σ : St) (Q : Int → St → Prop) : Prop :=
 ((x1 < 0) →
 wp_X4_knows_b16 Q σ) ∧
 (¬ (x1 < 0) →
 ((x1 ≥ σ 14 0) →
 wp_X4_knows_b16 Q σ) ∧
 (¬ (x1 ≥ σ 14 0) →
 Q 1 σ))
def wp_X11_rule (x1 : Int) (x2 : Int) (σ : St) (Q : Int → St → Prop) : Prop :=
 wp_X4_knows x1 σ (fun r1 σ2 =>
 ((r1 ≠ 0) →
 (x2 = 0 →
 (0 ≤ x1 ∧ x1 < 40) ∧
 Q (σ2 15 (x1.toNat)) σ2) ∧
 (x2 = 1 →
 (0 ≤ x1 ∧ x1 < 40) ∧
 Q (σ2 16 (x1.toNat)) σ2) ∧
 (x2 = 2 →
 (0 ≤ x1 ∧ x1 < 40) ∧
 Q (σ2 17 (x1.toNat)) σ2) ∧
 (x2 = 3 →
 (0 ≤ x1 ∧ x1 < 40) ∧
 Q (σ2 18 (x1.toNat)) σ2) ∧
 (x2 = 4 →
 (0 ≤ x1 ∧ x1 < 40) ∧
 Q (σ2 19 (x1.toNat)) σ2) ∧
 (x2 = 5 →
 (0 ≤ x1 ∧ x1 < 40) ∧
 ((σ2 20 (x1.toNat) = 0) →
 Q 0 σ2) ∧
 (¬ (σ2 20 (x1.toNat) = 0) →
 Q 1 σ2)) ∧
 (¬ x2 = 0 ∧ ¬ x2 = 1 ∧ ¬ x2 = 2 ∧ ¬ x2 = 3 ∧ ¬ x2 = 4 ∧ ¬ x2 = 5 →
 Q ((-2)) σ2)) ∧
 (¬ (r1 ≠ 0) →
 Q ((-2)) σ2))
def wp_X4_isElement_b16 (Q : Int → St → Prop) (σ : St) : Prop :=
 Q 0 σ
def wp_X4_isElement (x1 : Int) (σ : St) (Q : Int → St → Prop) : Prop :=
 ((x1 < 0) →
 wp_X4_isElement_b16 Q σ) ∧
 (¬ (x1 < 0) →
 ((x1 ≥ σ 14 7) →
 wp_X4_isElement_b16 Q σ) ∧
 (¬ (x1 ≥ σ 14 7) →
 Q 1 σ))
def wp_X4_plus (x1 : Int) (x2 : Int) (σ : St) (Q : Int → St → Prop) : Prop :=
 (0 ≤ w32 ((w32 (x1 * (σ 14 7))) + x2) ∧ w32 ((w32 (x1 * (σ 14 7))) + x2) < 25) ∧
 Q (σ 21 ((w32 ((w32 (x1 * (σ 14 7))) + x2)).toNat)) σ
def wp_X4_times (x1 : Int) (x2 : Int) (σ : St) (Q : Int → St → Prop) : Prop :=
 (0 ≤ w32 ((w32 (x1 * (σ 14 7))) + x2) ∧ w32 ((w32 (x1 * (σ 14 7))) + x2) < 25) ∧
 Q (σ 22 ((w32 ((w32 (x1 * (σ 14 7))) + x2)).toNat)) σ
def wp_X11_table (x1 : Int) (x2 : Int) (x3 : Int) (σ : St) (Q : Int → St → Prop) : Prop :=
 wp_X4_isElement x2 σ (fun r1 σ2 =>
 ((r1 = 0) →
 Q ((-2)) σ2) ∧
 (¬ (r1 = 0) →
 wp_X4_isElement x3 σ2 (fun r3 σ4 =>
 ((r3 ≠ 0) →
 (x1 = 0 →
 wp_X4_plus x2 x3 σ4 (fun r5 σ6 =>
 Q r5 σ6)) ∧
 (x1 = 1 →
 wp_X4_times x2 x3 σ4 (fun r7 σ8 =>
 Q r7 σ8)) ∧
 (¬ x1 = 0 ∧ ¬ x1 = 1 →
 Q ((-2)) σ4)) ∧
 (¬ (r3 ≠ 0) →
 Q ((-2)) σ4))))
def wp_X11_drops_b33 (Q : Int → St → Prop) (x1 : Int) (s0 : Int) (σ : St) : Prop :=
 (0 ≤ x1 ∧ x1 < 40) ∧
 ((σ 20 (x1.toNat) ≠ s0) →
 (0 ≤ x1 ∧ x1 < 40) ∧ ∀ σ3 : St, σ3 = upS σ 20 x1.toNat (b_and s0 1) →
 wp_X11_forgetCases σ3 (fun r4 σ5 =>
 Q 1 σ5)) ∧
 (¬ (σ 20 (x1.toNat) ≠ s0) →
 Q 0 σ)
def wp_X11_drops (x1 : Int) (x2 : Int) (σ : St) (Q : Int → St → Prop) : Prop :=
 wp_X4_knows x1 σ (fun r1 σ2 =>
 ((r1 = 0) →
 Q ((-2)) σ2) ∧
 (¬ (r1 = 0) →
 ((x2 < 0) →
 Q ((-2)) σ2) ∧
 (¬ (x2 < 0) →
 ((x2 ≤ 1) →
 ((x2 ≠ 1) →
 wp_X11_drops_b33 Q x1 0 σ2) ∧
 (¬ (x2 ≠ 1) →
 wp_X11_drops_b33 Q x1 1 σ2)) ∧
 (¬ (x2 ≤ 1) →
 Q ((-2)) σ2))))
def wp_X11_prices (x1 : Int) (x2 : Int) (σ : St) (Q : Int → St → Prop) : Prop :=
 wp_X4_knows x1 σ (fun r1 σ2 =>
 ((r1 = 0) →
 Q ((-2)) σ2) ∧
 (¬ (r1 = 0) →
 ((x2 < 1) →
 Q ((-2)) σ2) ∧
 (¬ (x2 < 1) →
 ((x2 ≤ 99) →
 (0 ≤ x1 ∧ x1 < 40) ∧
 ∀ v3 : Int, v3 = σ2 18 (x1.toNat) →
 ((v3 = x2) →
 Q v3 σ2) ∧
 (¬ (v3 = x2) →
 (0 ≤ x1 ∧ x1 < 40) ∧ ∀ σ4 : St, σ4 = upS σ2 18 x1.toNat x2 →
 wp_X11_forgetCosts σ4 (fun r5 σ6 =>
 Q v3 σ6))) ∧
 (¬ (x2 ≤ 99) →
 Q ((-2)) σ2))))
def wp_X11_elements (x1 : Int) (x2 : Int) (σ : St) (Q : Int → St → Prop) : Prop :=
 wp_X4_knows x1 σ (fun r1 σ2 =>
 ((r1 = 0) →
 Q ((-2)) σ2) ∧
 (¬ (r1 = 0) →
 wp_X4_isElement x2 σ2 (fun r3 σ4 =>
 ((r3 ≠ 0) →
 (0 ≤ x1 ∧ x1 < 40) ∧
 ∀ v5 : Int, v5 = σ4 19 (x1.toNat) →
 ((v5 = x2) →
 Q v5 σ4) ∧
 (¬ (v5 = x2) →
 (0 ≤ x1 ∧ x1 < 40) ∧ ∀ σ6 : St, σ6 = upS σ4 19 x1.toNat x2 →
 wp_X9_forget σ6 (fun r7 σ8 =>
 Q v5 σ8))) ∧
 (¬ (r3 ≠ 0) →
 Q ((-2)) σ4))))
def wp_X0_itemAt (x1 : Int) (x2 : Int) (x3 : Int) (σ : St) (Q : Int → St → Prop) : Prop :=
 (0 ≤ w32 ((w32 (x2 * 9)) + x3) ∧ w32 ((w32 (x2 * 9)) + x3) < 81) ∧
 Q (w32 ((w32 ((σ 28 ((w32 ((w32 (x2 * 9)) + x3)).toNat)) * 12)) + x1)) σ
def wp_X11_itemOf (x1 : Int) (x2 : Int) (x3 : Int) (σ : St) (Q : Int → St → Prop) : Prop :=
 ((x1 < 0) →
 Q ((-2)) σ) ∧
 (¬ (x1 < 0) →
 ((x1 ≥ 12) →
 Q ((-2)) σ) ∧
 (¬ (x1 ≥ 12) →
 ((x2 < 0) →
 Q ((-2)) σ) ∧
 (¬ (x2 < 0) →
 ((x3 ≤ x2) →
 Q ((-2)) σ) ∧
 (¬ (x3 ≤ x2) →
 ((x3 ≤ σ 24 2) →
 wp_X0_build σ (fun r1 σ2 =>
 wp_X0_itemAt x1 x2 x3 σ2 (fun r3 σ4 =>
 Q r3 σ4))) ∧
 (¬ (x3 ≤ σ 24 2) →
 Q ((-2)) σ)))))
def wp_X1_lowestOf (x1 : Int) (σ : St) (Q : Int → St → Prop) : Prop :=
 wp_X1_prepare σ (fun r1 σ2 =>
 (0 ≤ x1 ∧ x1 < 432) ∧
 Q (σ2 37 (x1.toNat)) σ2)
def wp_X11_can (x1 : Int) (x2 : Int) (x3 : Int) (σ : St) (Q : Int → St → Prop) : Prop :=
 wp_X11_itemOf x1 x2 x3 σ (fun r1 σ2 =>
 ((r1 ≥ 0) →
 wp_X1_lowestOf r1 σ2 (fun r3 σ4 =>
 ((r3 ≤ 0) →
 Q 0 σ4) ∧
 (¬ (r3 ≤ 0) →
 Q 1 σ4))) ∧
 (¬ (r1 ≥ 0) →
 Q ((-2)) σ2))
def wp_X11_least (x1 : Int) (x2 : Int) (x3 : Int) (σ : St) (Q : Int → St → Prop) : Prop :=
 wp_X11_itemOf x1 x2 x3 σ (fun r1 σ2 =>
 ((r1 ≥ 0) →
 wp_X1_lowestOf r1 σ2 (fun r3 σ4 =>
 Q r3 σ4)) ∧
 (¬ (r1 ≥ 0) →
 Q ((-2)) σ2))
def wp_X2_targets_b80 (Q : Int → St → Prop) (K5 : Int → Int → Int → Int → St → Prop) (x1 : Int) (x2 : Int) (x3 : Int) (x4 : Int) (σ : St) : Prop :=
 ∀ v5 : Int, v5 = w32 (x4 + 1) →
 K5 x1 x2 x3 v5 σ
def wp_X2_targets_l5 (Q : Int → St → Prop) : Nat → Int → Int → Int → Int → St → Prop
  | 0, _, _, _, _, _ => False
  | n + 1, x1, x2, x3, x4, σ =>
    ((x4 ≥ σ 24 12) →
    Q x3 σ) ∧
    (¬ (x4 ≥ σ 24 12) →
    (0 ≤ x4 ∧ x4 < 40) ∧
    ∀ v1 : Int, v1 = σ 33 (x4.toNat) →
    (0 ≤ v1 ∧ v1 < 40) ∧
    ((σ 15 (v1.toNat) ≠ x2) →
    wp_X2_targets_b80 Q (wp_X2_targets_l5 Q n) x1 x2 x3 x4 σ) ∧
    (¬ (σ 15 (v1.toNat) ≠ x2) →
    (0 ≤ v1 ∧ v1 < 40) ∧
    wp_X1_has (w32 (x1 + (σ 16 (v1.toNat)))) σ (fun r2 σ3 =>
    ((r2 = 0) →
    wp_X2_targets_b80 Q (wp_X2_targets_l5 Q n) x1 x2 x3 x4 σ3) ∧
    (¬ (r2 = 0) →
    (0 ≤ v1 ∧ v1 < 40) ∧
    ∀ v4 : Int, v4 = b_or x3 (b_shl 1 (σ3 16 (v1.toNat))) →
    wp_X2_targets_b80 Q (wp_X2_targets_l5 Q n) x1 x2 v4 x4 σ3))))
def wp_X2_targets (x1 : Int) (x2 : Int) (σ : St) (Q : Int → St → Prop) : Prop :=
 wp_X2_targets_l5 Q bigN x1 x2 0 0 σ
def wp_X2_labelsThatGoOn_b25 (Q : Int → St → Prop) (K4 : Int → Int → Int → St → Prop) (x1 : Int) (x2 : Int) (x3 : Int) (σ : St) : Prop :=
 ∀ v4 : Int, v4 = w32 (x3 + 1) →
 K4 x1 x2 v4 σ
def wp_X2_labelsThatGoOn_l4 (Q : Int → St → Prop) : Nat → Int → Int → Int → St → Prop
  | 0, _, _, _, _ => False
  | n + 1, x1, x2, x3, σ =>
    ((x3 ≥ 12) →
    Q x2 σ) ∧
    (¬ (x3 ≥ 12) →
    wp_X2_targets x1 x3 σ (fun r1 σ2 =>
    ((r1 = 0) →
    wp_X2_labelsThatGoOn_b25 Q (wp_X2_labelsThatGoOn_l4 Q n) x1 x2 x3 σ2) ∧
    (¬ (r1 = 0) →
    ∀ v3 : Int, v3 = b_or x2 (b_shl 1 x3) →
    wp_X2_labelsThatGoOn_b25 Q (wp_X2_labelsThatGoOn_l4 Q n) x1 v3 x3 σ2)))
def wp_X2_labelsThatGoOn (x1 : Int) (σ : St) (Q : Int → St → Prop) : Prop :=
 wp_X2_labelsThatGoOn_l4 Q bigN x1 0 0 σ
def wp_X1_isFull_b44 (Q : Int → St → Prop) (σ : St) : Prop :=
 Q 1 σ
def wp_X1_isFull_b48 (Q : Int → St → Prop) (σ : St) : Prop :=
 Q 0 σ
def wp_X1_isFull_b32 (Q : Int → St → Prop) (x3 : Int) (σ : St) : Prop :=
 ((x3 < 0) →
 wp_X1_isFull_b44 Q σ) ∧
 (¬ (x3 < 0) →
 wp_X1_has x3 σ (fun r5 σ6 =>
 ((r5 = 0) →
 wp_X1_isFull_b48 Q σ6) ∧
 (¬ (r5 = 0) →
 wp_X1_isFull_b44 Q σ6)))
def wp_X1_isFull (x1 : Int) (σ : St) (Q : Int → St → Prop) : Prop :=
 (0 ≤ x1 ∧ x1 < 3360) ∧
 ∀ v1 : Int, v1 = σ 31 (x1.toNat) →
 (0 ≤ x1 ∧ x1 < 3360) ∧
 ∀ v2 : Int, v2 = σ 32 (x1.toNat) →
 ((v1 < 0) →
 wp_X1_isFull_b32 Q v2 σ) ∧
 (¬ (v1 < 0) →
 wp_X1_has v1 σ (fun r3 σ4 =>
 ((r3 = 0) →
 wp_X1_isFull_b48 Q σ4) ∧
 (¬ (r3 = 0) →
 wp_X1_isFull_b32 Q v2 σ4)))
def wp_X8_multiply_b63 (Q : Int → St → Prop) (x0 : Int) (x2 : Int) (s0 : Int) (σ : St) : Prop :=
 ((s0 = 0) →
 Q 1000000000000001 σ) ∧
 (¬ (s0 = 0) →
 Q (w64 (x0 * x2)) σ)
def wp_X8_multiply_b48 (Q : Int → St → Prop) (x0 : Int) (x2 : Int) (σ : St) : Prop :=
 x2 ≠ 0 ∧
 ((x0 > l_div 1000000000000001 x2) →
 wp_X8_multiply_b63 Q x0 x2 0 σ) ∧
 (¬ (x0 > l_div 1000000000000001 x2) →
 wp_X8_multiply_b63 Q x0 x2 1 σ)
def wp_X8_multiply (x0 : Int) (x2 : Int) (σ : St) (Q : Int → St → Prop) : Prop :=
 ((x0 = 0) →
 Q 0 σ) ∧
 (¬ (x0 = 0) →
 ((x2 ≠ 0) →
 ((x0 ≥ 2147483648) →
 wp_X8_multiply_b48 Q x0 x2 σ) ∧
 (¬ (x0 ≥ 2147483648) →
 ((x2 ≥ 2147483648) →
 wp_X8_multiply_b48 Q x0 x2 σ) ∧
 (¬ (x2 ≥ 2147483648) →
 ((w64 (x0 * x2) ≥ 1000000000000001) →
 wp_X8_multiply_b63 Q x0 x2 0 σ) ∧
 (¬ (w64 (x0 * x2) ≥ 1000000000000001) →
 wp_X8_multiply_b63 Q x0 x2 1 σ)))) ∧
 (¬ (x2 ≠ 0) →
 Q 0 σ))
def wp_X2_endlessProduct_b16 (Q : Int → St → Prop) (σ : St) : Prop :=
 Q ((-5)) σ
def wp_X2_endlessProduct (x0 : Int) (x2 : Int) (σ : St) (Q : Int → St → Prop) : Prop :=
 ((x0 = (-5)) →
 wp_X2_endlessProduct_b16 Q σ) ∧
 (¬ (x0 = (-5)) →
 ((x2 ≠ (-5)) →
 wp_X8_multiply x0 x2 σ (fun r1 σ2 =>
 Q r1 σ2)) ∧
 (¬ (x2 ≠ (-5)) →
 wp_X2_endlessProduct_b16 Q σ))
def wp_X8_add (x0 : Int) (x2 : Int) (σ : St) (Q : Int → St → Prop) : Prop :=
 ∀ v1 : Int, v1 = w64 (x0 + x2) →
 ((v1 ≤ 1000000000000001) →
 Q v1 σ) ∧
 (¬ (v1 ≤ 1000000000000001) →
 Q 1000000000000001 σ)
def wp_X2_endlessSum_b16 (Q : Int → St → Prop) (σ : St) : Prop :=
 Q ((-5)) σ
def wp_X2_endlessSum (x0 : Int) (x2 : Int) (σ : St) (Q : Int → St → Prop) : Prop :=
 ((x0 = (-5)) →
 wp_X2_endlessSum_b16 Q σ) ∧
 (¬ (x0 = (-5)) →
 ((x2 ≠ (-5)) →
 wp_X8_add x0 x2 σ (fun r1 σ2 =>
 Q r1 σ2)) ∧
 (¬ (x2 ≠ (-5)) →
 wp_X2_endlessSum_b16 Q σ))
def wp_X2_countCases_b129 (Q : Int → St → Prop) (K12 : Int → Int → Int → St → Prop) (x1 : Int) (x2 : Int) (x4 : Int) (σ : St) : Prop :=
 ∀ v9 : Int, v9 = w32 (x4 + 1) →
 K12 x1 x2 v9 σ
def wp_X2_countCases_b115 (Q : Int → St → Prop) (K12 : Int → Int → Int → St → Prop) (x1 : Int) (x2 : Int) (x4 : Int) (x5 : Int) (s0 : Int) (σ : St) : Prop :=
 wp_X2_endlessProduct x5 s0 σ (fun r10 σ11 =>
 wp_X2_endlessSum x2 r10 σ11 (fun r12 σ13 =>
 wp_X2_countCases_b129 Q K12 x1 r12 x4 σ13))
def wp_X2_countCases_b81 (Q : Int → St → Prop) (K12 : Int → Int → Int → St → Prop) (x1 : Int) (x2 : Int) (x4 : Int) (s0 : Int) (σ : St) : Prop :=
 (0 ≤ x4 ∧ x4 < 3360) ∧
 ((σ 32 (x4.toNat) ≥ 0) →
 (0 ≤ x4 ∧ x4 < 3360) ∧
 (0 ≤ σ 32 (x4.toNat) ∧ σ 32 (x4.toNat) < 432) ∧
 wp_X2_countCases_b115 Q K12 x1 x2 x4 s0 (σ 42 ((σ 32 (x4.toNat)).toNat)) σ) ∧
 (¬ (σ 32 (x4.toNat) ≥ 0) →
 wp_X2_countCases_b115 Q K12 x1 x2 x4 s0 1 σ)
def wp_X2_countCases_l12 (Q : Int → St → Prop) : Nat → Int → Int → Int → St → Prop
  | 0, _, _, _, _ => False
  | n + 1, x1, x2, x4, σ =>
    wp_X0_caseEnd x1 σ (fun r3 σ4 =>
    ((x4 ≥ r3) →
    Q x2 σ4) ∧
    (¬ (x4 ≥ r3) →
    wp_X0_goesOn x4 σ4 (fun r5 σ6 =>
    ((r5 ≠ 0) →
    wp_X2_countCases_b129 Q (wp_X2_countCases_l12 Q n) x1 x2 x4 σ6) ∧
    (¬ (r5 ≠ 0) →
    wp_X1_isFull x4 σ6 (fun r7 σ8 =>
    ((r7 = 0) →
    wp_X2_countCases_b129 Q (wp_X2_countCases_l12 Q n) x1 x2 x4 σ8) ∧
    (¬ (r7 = 0) →
    (0 ≤ x4 ∧ x4 < 3360) ∧
    ((σ8 31 (x4.toNat) ≥ 0) →
    (0 ≤ x4 ∧ x4 < 3360) ∧
    (0 ≤ σ8 31 (x4.toNat) ∧ σ8 31 (x4.toNat) < 432) ∧
    wp_X2_countCases_b81 Q (wp_X2_countCases_l12 Q n) x1 x2 x4 (σ8 42 ((σ8 31 (x4.toNat)).toNat)) σ8) ∧
    (¬ (σ8 31 (x4.toNat) ≥ 0) →
    wp_X2_countCases_b81 Q (wp_X2_countCases_l12 Q n) x1 x2 x4 1 σ8)))))))
def wp_X2_countCases (x1 : Int) (σ : St) (Q : Int → St → Prop) : Prop :=
 wp_X0_caseStart x1 σ (fun r1 σ2 =>
 wp_X2_countCases_l12 Q bigN x1 0 r1 σ2)
def wp_X2_addTargets_b90 (Q : Int → St → Prop) (K2 : Int → Int → Int → St → Prop) (x1 : Int) (x2 : Int) (x3 : Int) (σ : St) : Prop :=
 ∀ v8 : Int, v8 = w32 (x3 + 1) →
 K2 x1 x2 v8 σ
def wp_X2_addTargets_l2 (Q : Int → St → Prop) : Nat → Int → Int → Int → St → Prop
  | 0, _, _, _, _ => False
  | n + 1, x1, x2, x3, σ =>
    ((x3 ≥ σ 24 12) →
    Q 0 σ) ∧
    (¬ (x3 ≥ σ 24 12) →
    (0 ≤ x3 ∧ x3 < 40) ∧
    ∀ v1 : Int, v1 = σ 33 (x3.toNat) →
    (0 ≤ v1 ∧ v1 < 40) ∧
    ∀ v2 : Int, v2 = w32 (x1 + (σ 16 (v1.toNat))) →
    (0 ≤ v1 ∧ v1 < 40) ∧
    ((σ 15 (v1.toNat) ≠ x2) →
    wp_X2_addTargets_b90 Q (wp_X2_addTargets_l2 Q n) x1 x2 x3 σ) ∧
    (¬ (σ 15 (v1.toNat) ≠ x2) →
    wp_X1_has v2 σ (fun r3 σ4 =>
    ((r3 = 0) →
    wp_X2_addTargets_b90 Q (wp_X2_addTargets_l2 Q n) x1 x2 x3 σ4) ∧
    (¬ (r3 = 0) →
    (0 ≤ w32 (x1 + x2) ∧ w32 (x1 + x2) < 432) ∧
    (0 ≤ v2 ∧ v2 < 432) ∧
    wp_X2_endlessSum (σ4 42 ((w32 (x1 + x2)).toNat)) (σ4 42 (v2.toNat)) σ4 (fun r5 σ6 =>
    (0 ≤ w32 (x1 + x2) ∧ w32 (x1 + x2) < 432) ∧ ∀ σ7 : St, σ7 = upS σ6 42 (w32 (x1 + x2)).toNat r5 →
    wp_X2_addTargets_b90 Q (wp_X2_addTargets_l2 Q n) x1 x2 x3 σ7)))))
def wp_X2_addTargets (x1 : Int) (x2 : Int) (σ : St) (Q : Int → St → Prop) : Prop :=
 wp_X2_addTargets_l2 Q bigN x1 x2 0 σ
def wp_X2_countSpan_b93 (Q : Int → St → Prop) (K35 : Int → Int → Int → St → Prop) (K48 : Int → Int → Int → Int → St → Prop) (x1 : Int) (x2 : Int) (x3 : Int) (x4 : Int) (σ : St) : Prop :=
 ∀ v14 : Int, v14 = w32 (x4 + 1) →
 K48 x1 x2 x3 v14 σ
def wp_X2_countSpan_l48 (Q : Int → St → Prop) (K35 : Int → Int → Int → St → Prop) : Nat → Int → Int → Int → Int → St → Prop
  | 0, _, _, _, _, _ => False
  | n + 1, x1, x2, x3, x4, σ =>
    ((x4 ≥ 12) →
    ∀ v7 : Int, v7 = w32 (x3 + 1) →
    K35 x1 x2 v7 σ) ∧
    (¬ (x4 ≥ 12) →
    ((b_and (b_shr x2 x4) 1 ≠ 1) →
    wp_X2_countSpan_b93 Q K35 (wp_X2_countSpan_l48 Q K35 n) x1 x2 x3 x4 σ) ∧
    (¬ (b_and (b_shr x2 x4) 1 ≠ 1) →
    wp_X2_targets x1 x4 σ (fun r8 σ9 =>
    ((b_and r8 x2 ≠ 0) →
    wp_X2_countSpan_b93 Q K35 (wp_X2_countSpan_l48 Q K35 n) x1 x2 x3 x4 σ9) ∧
    (¬ (b_and r8 x2 ≠ 0) →
    wp_X2_addTargets x1 x4 σ9 (fun r10 σ11 =>
    ∀ v12 : Int, v12 = b_and x2 (b_xor (b_shl 1 x4) ((-1))) →
    wp_X2_countSpan_b93 Q K35 (wp_X2_countSpan_l48 Q K35 n) x1 v12 x3 x4 σ11)))))
def wp_X2_countSpan_b133 (Q : Int → St → Prop) (K107 : Int → Int → Int → St → Prop) (x1 : Int) (x2 : Int) (x3 : Int) (σ : St) : Prop :=
 ∀ v15 : Int, v15 = w32 (x3 + 1) →
 K107 x1 x2 v15 σ
def wp_X2_countSpan_l107 (Q : Int → St → Prop) : Nat → Int → Int → Int → St → Prop
  | 0, _, _, _, _ => False
  | n + 1, x1, x2, x3, σ =>
    ((x3 ≥ 12) →
    Q 0 σ) ∧
    (¬ (x3 ≥ 12) →
    ((b_and (b_shr x2 x3) 1 ≠ 1) →
    wp_X2_countSpan_b133 Q (wp_X2_countSpan_l107 Q n) x1 x2 x3 σ) ∧
    (¬ (b_and (b_shr x2 x3) 1 ≠ 1) →
    (0 ≤ w32 (x1 + x3) ∧ w32 (x1 + x3) < 432) ∧ ∀ σ13 : St, σ13 = upS σ 42 (w32 (x1 + x3)).toNat ((-5)) →
    wp_X2_countSpan_b133 Q (wp_X2_countSpan_l107 Q n) x1 x2 x3 σ13))
def wp_X2_countSpan_b105 (Q : Int → St → Prop) (x1 : Int) (x2 : Int) (σ : St) : Prop :=
 wp_X2_countSpan_l107 Q bigN x1 x2 0 σ
def wp_X2_countSpan_l35 (Q : Int → St → Prop) : Nat → Int → Int → Int → St → Prop
  | 0, _, _, _, _ => False
  | n + 1, x1, x2, x3, σ =>
    ((x3 ≥ 12) →
    wp_X2_countSpan_b105 Q x1 x2 σ) ∧
    (¬ (x3 ≥ 12) →
    ((x2 = 0) →
    wp_X2_countSpan_b105 Q x1 x2 σ) ∧
    (¬ (x2 = 0) →
    wp_X2_countSpan_l48 Q (wp_X2_countSpan_l35 Q n) bigN x1 x2 x3 0 σ))
def wp_X2_countSpan_l2 (Q : Int → St → Prop) : Nat → Int → Int → St → Prop
  | 0, _, _, _ => False
  | n + 1, x1, x2, σ =>
    ((x2 ≥ w32 (x1 + 12)) →
    wp_X2_labelsThatGoOn x1 σ (fun r1 σ2 =>
    wp_X2_countSpan_l35 Q bigN x1 r1 0 σ2)) ∧
    (¬ (x2 ≥ w32 (x1 + 12)) →
    wp_X2_countCases x2 σ (fun r3 σ4 =>
    (0 ≤ x2 ∧ x2 < 432) ∧ ∀ σ5 : St, σ5 = upS σ4 42 x2.toNat r3 →
    ∀ v6 : Int, v6 = w32 (x2 + 1) →
    (wp_X2_countSpan_l2 Q n) x1 v6 σ5))
def wp_X2_countSpan (x1 : Int) (σ : St) (Q : Int → St → Prop) : Prop :=
 wp_X2_countSpan_l2 Q bigN x1 x1 σ
def wp_X2_treesOf_b46 (Q : Int → St → Prop) (x1 : Int) (σ : St) : Prop :=
 (0 ≤ x1 ∧ x1 < 432) ∧
 Q (σ 42 (x1.toNat)) σ
def wp_X2_treesOf_l21 (Q : Int → St → Prop) : Nat → Int → Int → St → Prop
  | 0, _, _, _ => False
  | n + 1, x1, x2, σ =>
    ((x2 ≥ σ 24 3) →
    wp_X2_treesOf_b46 Q x1 σ) ∧
    (¬ (x2 ≥ σ 24 3) →
    wp_X2_countSpan (w32 (x2 * 12)) σ (fun r4 σ5 =>
    ∀ v6 : Int, v6 = w32 (x2 + 1) →
    (wp_X2_treesOf_l21 Q n) x1 v6 σ5))
def wp_X2_treesOf (x1 : Int) (σ : St) (Q : Int → St → Prop) : Prop :=
 wp_X1_prepare σ (fun r1 σ2 =>
 ((σ2 41 6 ≠ 0) →
 wp_X2_treesOf_b46 Q x1 σ2) ∧
 (¬ (σ2 41 6 ≠ 0) →
 ∀ σ3 : St, σ3 = upS σ2 41 6 1 →
 wp_X2_treesOf_l21 Q bigN x1 0 σ3))
def wp_X11_tellNumber (x0 : Int) (σ : St) (Q : Int → St → Prop) : Prop :=
 ((x0 ≤ 1000000000000000) →
 Q x0 σ) ∧
 (¬ (x0 ≤ 1000000000000000) →
 Q ((-3)) σ)
def wp_X11_ways (x1 : Int) (x2 : Int) (x3 : Int) (σ : St) (Q : Int → St → Prop) : Prop :=
 wp_X11_itemOf x1 x2 x3 σ (fun r1 σ2 =>
 ((r1 ≥ 0) →
 wp_X2_treesOf r1 σ2 (fun r3 σ4 =>
 wp_X11_tellNumber r3 σ4 (fun r5 σ6 =>
 Q r5 σ6))) ∧
 (¬ (r1 ≥ 0) →
 Q ((-2)) σ2))
def wp_X1_leastOfCases_c38_b159 (Q : Int → St → Prop) (K13 : Int → Int → Int → Int → Int → St → Prop) (x2 : Int) (x3 : Int) (x4 : Int) (x5 : Int) (x6 : Int) (σ : St) : Prop :=
 ∀ v8 : Int, v8 = w32 (x6 + 1) →
 K13 x2 x3 x4 x5 v8 σ
def wp_X1_leastOfCases_c38_b116 (Q : Int → St → Prop) (K13 : Int → Int → Int → Int → Int → St → Prop) (x2 : Int) (x3 : Int) (x4 : Int) (x5 : Int) (x6 : Int) (x7 : Int) (x8 : Int) (s0 : Int) (σ : St) : Prop :=
 ((x8 < 0) →
 wp_X1_leastOfCases_c38_b159 Q K13 x2 x3 x4 x5 x6 σ) ∧
 (¬ (x8 < 0) →
 ((s0 < 0) →
 wp_X1_leastOfCases_c38_b159 Q K13 x2 x3 x4 x5 x6 σ) ∧
 (¬ (s0 < 0) →
 (0 ≤ x7 ∧ x7 < 40) ∧
 wp_X1_join x8 s0 x4 σ (fun r9 σ10 =>
 wp_X1_join (σ 18 (x7.toNat)) r9 x4 σ10 (fun r11 σ12 =>
 wp_X1_lesser x5 r11 σ12 (fun r13 σ14 =>
 wp_X1_leastOfCases_c38_b159 Q K13 x2 x3 x4 r13 x6 σ14)))))
def wp_X1_leastOfCases_c38_b85 (Q : Int → St → Prop) (K13 : Int → Int → Int → Int → Int → St → Prop) (x2 : Int) (x3 : Int) (x4 : Int) (x5 : Int) (x6 : Int) (x7 : Int) (s0 : Int) (σ : St) : Prop :=
 (0 ≤ x6 ∧ x6 < 3360) ∧
 ((σ 32 (x6.toNat) ≥ 0) →
 (0 ≤ x6 ∧ x6 < 3360) ∧
 (0 ≤ σ 32 (x6.toNat) ∧ σ 32 (x6.toNat) < 432) ∧
 wp_X1_leastOfCases_c38_b116 Q K13 x2 x3 x4 x5 x6 x7 s0 (σ 38 ((σ 32 (x6.toNat)).toNat)) σ) ∧
 (¬ (σ 32 (x6.toNat) ≥ 0) →
 wp_X1_leastOfCases_c38_b116 Q K13 x2 x3 x4 x5 x6 x7 s0 0 σ)
def wp_X1_leastOfCases_c38_l13 (Q : Int → St → Prop) : Nat → Int → Int → Int → Int → Int → St → Prop
  | 0, _, _, _, _, _, _ => False
  | n + 1, x2, x3, x4, x5, x6, σ =>
    wp_X0_caseEnd x2 σ (fun r3 σ4 =>
    ((x6 ≥ r3) →
    Q x5 σ4) ∧
    (¬ (x6 ≥ r3) →
    (0 ≤ x6 ∧ x6 < 3360) ∧
    ∀ v5 : Int, v5 = σ4 29 (x6.toNat) →
    ((v5 = x3) →
    wp_X1_leastOfCases_c38_b159 Q (wp_X1_leastOfCases_c38_l13 Q n) x2 x3 x4 x5 x6 σ4) ∧
    (¬ (v5 = x3) →
    wp_X0_goesOn x6 σ4 (fun r6 σ7 =>
    ((r6 ≠ 0) →
    wp_X1_leastOfCases_c38_b159 Q (wp_X1_leastOfCases_c38_l13 Q n) x2 x3 x4 x5 x6 σ7) ∧
    (¬ (r6 ≠ 0) →
    (0 ≤ x6 ∧ x6 < 3360) ∧
    ((σ7 31 (x6.toNat) ≥ 0) →
    (0 ≤ x6 ∧ x6 < 3360) ∧
    (0 ≤ σ7 31 (x6.toNat) ∧ σ7 31 (x6.toNat) < 432) ∧
    wp_X1_leastOfCases_c38_b85 Q (wp_X1_leastOfCases_c38_l13 Q n) x2 x3 x4 x5 x6 v5 (σ7 38 ((σ7 31 (x6.toNat)).toNat)) σ7) ∧
    (¬ (σ7 31 (x6.toNat) ≥ 0) →
    wp_X1_leastOfCases_c38_b85 Q (wp_X1_leastOfCases_c38_l13 Q n) x2 x3 x4 x5 x6 v5 0 σ7))))))
def wp_X1_leastOfCases_c38 (x2 : Int) (x3 : Int) (x4 : Int) (σ : St) (Q : Int → St → Prop) : Prop :=
 wp_X0_caseStart x2 σ (fun r1 σ2 =>
 wp_X1_leastOfCases_c38_l13 Q bigN x2 x3 x4 ((-1)) r1 σ2)
def wp_X1_relax_c38_b122 (Q : Int → St → Prop) (K6 : Int → Int → Int → Int → Int → St → Prop) (x2 : Int) (x3 : Int) (x4 : Int) (x5 : Int) (x6 : Int) (σ : St) : Prop :=
 ∀ v8 : Int, v8 = w32 (x6 + 1) →
 K6 x2 x3 x4 x5 v8 σ
def wp_X1_relax_c38_b113 (Q : Int → St → Prop) (K6 : Int → Int → Int → Int → Int → St → Prop) (x2 : Int) (x3 : Int) (x4 : Int) (x6 : Int) (x9 : Int) (x10 : Int) (s0 : Int) (s1 : Int) (σ : St) : Prop :=
 ∀ v9 : Int, v9 = b_or s1 s0 →
 (0 ≤ x9 ∧ x9 < 432) ∧ ∀ σ10 : St, σ10 = upS σ 38 x9.toNat x10 →
 wp_X1_relax_c38_b122 Q K6 x2 x3 x4 v9 x6 σ10
def wp_X1_relax_c38_l6 (Q : Int → St → Prop) : Nat → Int → Int → Int → Int → Int → St → Prop
  | 0, _, _, _, _, _, _ => False
  | n + 1, x2, x3, x4, x5, x6, σ =>
    ((x6 ≥ σ 24 12) →
    (x5 = 0 ∨ x5 = 1) ∧ Q x5 σ) ∧
    (¬ (x6 ≥ σ 24 12) →
    (0 ≤ x6 ∧ x6 < 40) ∧
    ∀ v1 : Int, v1 = σ 33 (x6.toNat) →
    (0 ≤ v1 ∧ v1 < 40) ∧
    (0 ≤ w32 (x2 + (σ 16 (v1.toNat))) ∧ w32 (x2 + (σ 16 (v1.toNat))) < 432) ∧
    ∀ v2 : Int, v2 = σ 38 ((w32 (x2 + (σ 16 (v1.toNat)))).toNat) →
    (0 ≤ v1 ∧ v1 < 40) ∧
    ∀ v3 : Int, v3 = w32 (x2 + (σ 15 (v1.toNat))) →
    ((v1 = x3) →
    wp_X1_relax_c38_b122 Q (wp_X1_relax_c38_l6 Q n) x2 x3 x4 x5 x6 σ) ∧
    (¬ (v1 = x3) →
    ((v2 < 0) →
    wp_X1_relax_c38_b122 Q (wp_X1_relax_c38_l6 Q n) x2 x3 x4 x5 x6 σ) ∧
    (¬ (v2 < 0) →
    (0 ≤ v3 ∧ v3 < 432) ∧
    (0 ≤ v1 ∧ v1 < 40) ∧
    wp_X1_join (σ 18 (v1.toNat)) v2 x4 σ (fun r4 σ5 =>
    wp_X1_lesser (σ 38 (v3.toNat)) r4 σ5 (fun r6 σ7 =>
    (0 ≤ v3 ∧ v3 < 432) ∧
    ((r6 = σ7 38 (v3.toNat)) →
    wp_X1_relax_c38_b113 Q (wp_X1_relax_c38_l6 Q n) x2 x3 x4 x6 v3 r6 0 x5 σ7) ∧
    (¬ (r6 = σ7 38 (v3.toNat)) →
    wp_X1_relax_c38_b113 Q (wp_X1_relax_c38_l6 Q n) x2 x3 x4 x6 v3 r6 1 x5 σ7))))))
def wp_X1_relax_c38 (x2 : Int) (x3 : Int) (x4 : Int) (σ : St) (Q : Int → St → Prop) : Prop :=
 wp_X1_relax_c38_l6 Q bigN x2 x3 x4 0 0 σ
def wp_X1_fill_c38_b90 (Q : Int → St → Prop) (K3 : Int → Int → Int → St → Prop) (x2 : Int) (x3 : Int) (x4 : Int) (σ : St) : Prop :=
 ∀ v9 : Int, v9 = w32 (x4 + 1) →
 K3 x2 x3 v9 σ
def wp_X1_fill_c38_l61 (Q : Int → St → Prop) (K3 : Int → Int → Int → St → Prop) : Nat → Int → Int → Int → Int → Int → Int → St → Prop
  | 0, _, _, _, _, _, _, _ => False
  | n + 1, x2, x3, x4, x5, x6, x7, σ =>
    ((x7 > 12) →
    wp_X1_fill_c38_b90 Q K3 x2 x3 x4 σ) ∧
    (¬ (x7 > 12) →
    ((x6 = 0) →
    wp_X1_fill_c38_b90 Q K3 x2 x3 x4 σ) ∧
    (¬ (x6 = 0) →
    wp_X1_relax_c38 x5 x2 x3 σ (fun r6 σ7 =>
    ∀ v8 : Int, v8 = w32 (x7 + 1) →
    (wp_X1_fill_c38_l61 Q K3 n) x2 x3 x4 x5 r6 v8 σ7)))
def wp_X1_fill_c38_l26 (Q : Int → St → Prop) (K3 : Int → Int → Int → St → Prop) : Nat → Int → Int → Int → Int → Int → St → Prop
  | 0, _, _, _, _, _, _ => False
  | n + 1, x2, x3, x4, x5, x6, σ =>
    ((x6 ≥ w32 (x5 + 12)) →
    wp_X1_fill_c38_l61 Q K3 bigN x2 x3 x4 x5 1 0 σ) ∧
    (¬ (x6 ≥ w32 (x5 + 12)) →
    wp_X1_leastOfCases_c38 x6 x2 x3 σ (fun r2 σ3 =>
    (0 ≤ x6 ∧ x6 < 432) ∧ ∀ σ4 : St, σ4 = upS σ3 38 x6.toNat r2 →
    ∀ v5 : Int, v5 = w32 (x6 + 1) →
    (wp_X1_fill_c38_l26 Q K3 n) x2 x3 x4 x5 v5 σ4))
def wp_X1_fill_c38_l3 (Q : Int → St → Prop) : Nat → Int → Int → Int → St → Prop
  | 0, _, _, _, _ => False
  | n + 1, x2, x3, x4, σ =>
    ((x4 ≥ σ 24 3) →
    Q 0 σ) ∧
    (¬ (x4 ≥ σ 24 3) →
    ∀ v1 : Int, v1 = w32 (x4 * 12) →
    wp_X1_fill_c38_l26 Q (wp_X1_fill_c38_l3 Q n) bigN x2 x3 x4 v1 v1 σ)
def wp_X1_fill_c38 (x2 : Int) (x3 : Int) (σ : St) (Q : Int → St → Prop) : Prop :=
 wp_X1_fill_c38_l3 Q bigN x2 x3 0 σ
def wp_X1_mildestOf_b29 (Q : Int → St → Prop) (x1 : Int) (σ : St) : Prop :=
 (0 ≤ x1 ∧ x1 < 432) ∧
 Q (σ 38 (x1.toNat)) σ
def wp_X1_mildestOf (x1 : Int) (σ : St) (Q : Int → St → Prop) : Prop :=
 wp_X0_build σ (fun r1 σ2 =>
 ((σ2 36 8 ≠ 0) →
 wp_X1_mildestOf_b29 Q x1 σ2) ∧
 (¬ (σ2 36 8 ≠ 0) →
 ∀ σ3 : St, σ3 = upS σ2 36 8 1 →
 wp_X1_fill_c38 ((-1)) 0 σ3 (fun r4 σ5 =>
 wp_X1_mildestOf_b29 Q x1 σ5)))
def wp_X11_dearest (x1 : Int) (x2 : Int) (x3 : Int) (σ : St) (Q : Int → St → Prop) : Prop :=
 wp_X11_itemOf x1 x2 x3 σ (fun r1 σ2 =>
 ((r1 ≥ 0) →
 wp_X1_mildestOf r1 σ2 (fun r3 σ4 =>
 Q r3 σ4)) ∧
 (¬ (r1 ≥ 0) →
 Q ((-2)) σ2))
def wp_X2_gatherCases_c44_b161 (Q : Int → St → Prop) (K23 : Int → Int → Int → Int → St → Prop) (x2 : Int) (x3 : Int) (x4 : Int) (x6 : Int) (σ : St) : Prop :=
 ∀ v10 : Int, v10 = w32 (x6 + 1) →
 K23 x2 x3 x4 v10 σ
def wp_X2_gatherCases_c44_b159 (Q : Int → St → Prop) (K23 : Int → Int → Int → Int → St → Prop) (x2 : Int) (x3 : Int) (x6 : Int) (s0 : Int) (σ : St) : Prop :=
 wp_X2_gatherCases_c44_b161 Q K23 x2 x3 s0 x6 σ
def wp_X2_gatherCases_c44_b139 (Q : Int → St → Prop) (K23 : Int → Int → Int → Int → St → Prop) (x2 : Int) (x3 : Int) (x4 : Int) (x6 : Int) (s0 : Int) (s1 : Int) (σ : St) : Prop :=
 ∀ v12 : Int, v12 = l_or s1 s0 →
 ((x3 = 0) →
 wp_X2_gatherCases_c44_b159 Q K23 x2 x3 x6 (l_and x4 v12) σ) ∧
 (¬ (x3 = 0) →
 wp_X2_gatherCases_c44_b159 Q K23 x2 x3 x6 (l_or x4 v12) σ)
def wp_X2_gatherCases_c44_b105 (Q : Int → St → Prop) (K23 : Int → Int → Int → Int → St → Prop) (x2 : Int) (x3 : Int) (x4 : Int) (x6 : Int) (s0 : Int) (s1 : Int) (σ : St) : Prop :=
 ∀ v11 : Int, v11 = l_or s1 s0 →
 (0 ≤ x6 ∧ x6 < 3360) ∧
 ((σ 32 (x6.toNat) ≥ 0) →
 (0 ≤ x6 ∧ x6 < 3360) ∧
 (0 ≤ σ 32 (x6.toNat) ∧ σ 32 (x6.toNat) < 432) ∧
 wp_X2_gatherCases_c44_b139 Q K23 x2 x3 x4 x6 (σ 44 ((σ 32 (x6.toNat)).toNat)) v11 σ) ∧
 (¬ (σ 32 (x6.toNat) ≥ 0) →
 wp_X2_gatherCases_c44_b139 Q K23 x2 x3 x4 x6 0 v11 σ)
def wp_X2_gatherCases_c44_l23 (Q : Int → St → Prop) : Nat → Int → Int → Int → Int → St → Prop
  | 0, _, _, _, _, _ => False
  | n + 1, x2, x3, x4, x6, σ =>
    wp_X0_caseEnd x2 σ (fun r3 σ4 =>
    ((x6 ≥ r3) →
    Q x4 σ4) ∧
    (¬ (x6 ≥ r3) →
    wp_X0_goesOn x6 σ4 (fun r5 σ6 =>
    ((r5 ≠ 0) →
    wp_X2_gatherCases_c44_b161 Q (wp_X2_gatherCases_c44_l23 Q n) x2 x3 x4 x6 σ6) ∧
    (¬ (r5 ≠ 0) →
    wp_X1_isFull x6 σ6 (fun r7 σ8 =>
    ((r7 = 0) →
    wp_X2_gatherCases_c44_b161 Q (wp_X2_gatherCases_c44_l23 Q n) x2 x3 x4 x6 σ8) ∧
    (¬ (r7 = 0) →
    (0 ≤ x6 ∧ x6 < 3360) ∧
    ∀ v9 : Int, v9 = l_shl 1 (σ8 29 (x6.toNat)) →
    (0 ≤ x6 ∧ x6 < 3360) ∧
    ((σ8 31 (x6.toNat) ≥ 0) →
    (0 ≤ x6 ∧ x6 < 3360) ∧
    (0 ≤ σ8 31 (x6.toNat) ∧ σ8 31 (x6.toNat) < 432) ∧
    wp_X2_gatherCases_c44_b105 Q (wp_X2_gatherCases_c44_l23 Q n) x2 x3 x4 x6 (σ8 44 ((σ8 31 (x6.toNat)).toNat)) v9 σ8) ∧
    (¬ (σ8 31 (x6.toNat) ≥ 0) →
    wp_X2_gatherCases_c44_b105 Q (wp_X2_gatherCases_c44_l23 Q n) x2 x3 x4 x6 0 v9 σ8)))))))
def wp_X2_gatherCases_c44_b11 (Q : Int → St → Prop) (x2 : Int) (x3 : Int) (s0 : Int) (σ : St) : Prop :=
 wp_X0_caseStart x2 σ (fun r1 σ2 =>
 wp_X2_gatherCases_c44_l23 Q bigN x2 x3 s0 r1 σ2)
def wp_X2_gatherCases_c44 (x2 : Int) (x3 : Int) (σ : St) (Q : Int → St → Prop) : Prop :=
 ((x3 = 0) →
 wp_X2_gatherCases_c44_b11 Q x2 x3 ((-1)) σ) ∧
 (¬ (x3 = 0) →
 wp_X2_gatherCases_c44_b11 Q x2 x3 0 σ)
def wp_X2_gatherUnaries_c44_b130 (Q : Int → St → Prop) (K6 : Int → Int → Int → Int → St → Prop) (x2 : Int) (x3 : Int) (x4 : Int) (x5 : Int) (σ : St) : Prop :=
 ∀ v7 : Int, v7 = w32 (x5 + 1) →
 K6 x2 x3 x4 v7 σ
def wp_X2_gatherUnaries_c44_b121 (Q : Int → St → Prop) (K6 : Int → Int → Int → Int → St → Prop) (x2 : Int) (x3 : Int) (x5 : Int) (x7 : Int) (x11 : Int) (s0 : Int) (s1 : Int) (σ : St) : Prop :=
 ∀ v8 : Int, v8 = b_or s1 s0 →
 (0 ≤ x7 ∧ x7 < 432) ∧ ∀ σ9 : St, σ9 = upS σ 44 x7.toNat x11 →
 wp_X2_gatherUnaries_c44_b130 Q K6 x2 x3 v8 x5 σ9
def wp_X2_gatherUnaries_c44_b102 (Q : Int → St → Prop) (K6 : Int → Int → Int → Int → St → Prop) (x2 : Int) (x3 : Int) (x4 : Int) (x5 : Int) (x7 : Int) (s0 : Int) (σ : St) : Prop :=
 (0 ≤ x7 ∧ x7 < 432) ∧
 ((s0 = σ 44 (x7.toNat)) →
 wp_X2_gatherUnaries_c44_b121 Q K6 x2 x3 x5 x7 s0 0 x4 σ) ∧
 (¬ (s0 = σ 44 (x7.toNat)) →
 wp_X2_gatherUnaries_c44_b121 Q K6 x2 x3 x5 x7 s0 1 x4 σ)
def wp_X2_gatherUnaries_c44_l6 (Q : Int → St → Prop) : Nat → Int → Int → Int → Int → St → Prop
  | 0, _, _, _, _, _ => False
  | n + 1, x2, x3, x4, x5, σ =>
    ((x5 ≥ σ 24 12) →
    (x4 = 0 ∨ x4 = 1) ∧ Q x4 σ) ∧
    (¬ (x5 ≥ σ 24 12) →
    (0 ≤ x5 ∧ x5 < 40) ∧
    ∀ v1 : Int, v1 = σ 33 (x5.toNat) →
    (0 ≤ v1 ∧ v1 < 40) ∧
    ∀ v2 : Int, v2 = w32 (x2 + (σ 15 (v1.toNat))) →
    (0 ≤ v1 ∧ v1 < 40) ∧
    ∀ v3 : Int, v3 = w32 (x2 + (σ 16 (v1.toNat))) →
    wp_X1_has v3 σ (fun r4 σ5 =>
    ((r4 = 0) →
    wp_X2_gatherUnaries_c44_b130 Q (wp_X2_gatherUnaries_c44_l6 Q n) x2 x3 x4 x5 σ5) ∧
    (¬ (r4 = 0) →
    (0 ≤ v3 ∧ v3 < 432) ∧
    ∀ v6 : Int, v6 = l_or (l_shl 1 v1) (σ5 44 (v3.toNat)) →
    ((x3 = 0) →
    (0 ≤ v2 ∧ v2 < 432) ∧
    wp_X2_gatherUnaries_c44_b102 Q (wp_X2_gatherUnaries_c44_l6 Q n) x2 x3 x4 x5 v2 (l_and (σ5 44 (v2.toNat)) v6) σ5) ∧
    (¬ (x3 = 0) →
    (0 ≤ v2 ∧ v2 < 432) ∧
    wp_X2_gatherUnaries_c44_b102 Q (wp_X2_gatherUnaries_c44_l6 Q n) x2 x3 x4 x5 v2 (l_or (σ5 44 (v2.toNat)) v6) σ5))))
def wp_X2_gatherUnaries_c44 (x2 : Int) (x3 : Int) (σ : St) (Q : Int → St → Prop) : Prop :=
 wp_X2_gatherUnaries_c44_l6 Q bigN x2 x3 0 0 σ
def wp_X2_gather_c44_b85 (Q : Int → St → Prop) (K2 : Int → Int → St → Prop) (x2 : Int) (x3 : Int) (σ : St) : Prop :=
 ∀ v9 : Int, v9 = w32 (x3 + 1) →
 K2 x2 v9 σ
def wp_X2_gather_c44_l57 (Q : Int → St → Prop) (K2 : Int → Int → St → Prop) : Nat → Int → Int → Int → Int → Int → St → Prop
  | 0, _, _, _, _, _, _ => False
  | n + 1, x2, x3, x4, x5, x6, σ =>
    ((x6 > 12) →
    wp_X2_gather_c44_b85 Q K2 x2 x3 σ) ∧
    (¬ (x6 > 12) →
    ((x5 = 0) →
    wp_X2_gather_c44_b85 Q K2 x2 x3 σ) ∧
    (¬ (x5 = 0) →
    wp_X2_gatherUnaries_c44 x4 x2 σ (fun r6 σ7 =>
    ∀ v8 : Int, v8 = w32 (x6 + 1) →
    (wp_X2_gather_c44_l57 Q K2 n) x2 x3 x4 r6 v8 σ7)))
def wp_X2_gather_c44_l23 (Q : Int → St → Prop) (K2 : Int → Int → St → Prop) : Nat → Int → Int → Int → Int → St → Prop
  | 0, _, _, _, _, _ => False
  | n + 1, x2, x3, x4, x5, σ =>
    ((x5 ≥ w32 (x4 + 12)) →
    wp_X2_gather_c44_l57 Q K2 bigN x2 x3 x4 1 0 σ) ∧
    (¬ (x5 ≥ w32 (x4 + 12)) →
    wp_X2_gatherCases_c44 x5 x2 σ (fun r2 σ3 =>
    (0 ≤ x5 ∧ x5 < 432) ∧ ∀ σ4 : St, σ4 = upS σ3 44 x5.toNat r2 →
    ∀ v5 : Int, v5 = w32 (x5 + 1) →
    (wp_X2_gather_c44_l23 Q K2 n) x2 x3 x4 v5 σ4))
def wp_X2_gather_c44_l2 (Q : Int → St → Prop) : Nat → Int → Int → St → Prop
  | 0, _, _, _ => False
  | n + 1, x2, x3, σ =>
    ((x3 ≥ σ 24 3) →
    Q 0 σ) ∧
    (¬ (x3 ≥ σ 24 3) →
    ∀ v1 : Int, v1 = w32 (x3 * 12) →
    wp_X2_gather_c44_l23 Q (wp_X2_gather_c44_l2 Q n) bigN x2 x3 v1 v1 σ)
def wp_X2_gather_c44 (x2 : Int) (σ : St) (Q : Int → St → Prop) : Prop :=
 wp_X2_gather_c44_l2 Q bigN x2 0 σ
def wp_X2_inEach_b28 (Q : Int → St → Prop) (x1 : Int) (σ : St) : Prop :=
 wp_X1_has x1 σ (fun r6 σ7 =>
 ((r6 = 0) →
 Q 0 σ7) ∧
 (¬ (r6 = 0) →
 (0 ≤ x1 ∧ x1 < 432) ∧
 Q (σ7 44 (x1.toNat)) σ7))
def wp_X2_inEach (x1 : Int) (σ : St) (Q : Int → St → Prop) : Prop :=
 wp_X1_prepare σ (fun r1 σ2 =>
 ((σ2 41 8 ≠ 0) →
 wp_X2_inEach_b28 Q x1 σ2) ∧
 (¬ (σ2 41 8 ≠ 0) →
 ∀ σ3 : St, σ3 = upS σ2 41 8 1 →
 wp_X2_gather_c44 0 σ3 (fun r4 σ5 =>
 wp_X2_inEach_b28 Q x1 σ5)))
def wp_X2_gatherCases_c43_b161 (Q : Int → St → Prop) (K23 : Int → Int → Int → Int → St → Prop) (x2 : Int) (x3 : Int) (x4 : Int) (x6 : Int) (σ : St) : Prop :=
 ∀ v10 : Int, v10 = w32 (x6 + 1) →
 K23 x2 x3 x4 v10 σ
def wp_X2_gatherCases_c43_b159 (Q : Int → St → Prop) (K23 : Int → Int → Int → Int → St → Prop) (x2 : Int) (x3 : Int) (x6 : Int) (s0 : Int) (σ : St) : Prop :=
 wp_X2_gatherCases_c43_b161 Q K23 x2 x3 s0 x6 σ
def wp_X2_gatherCases_c43_b139 (Q : Int → St → Prop) (K23 : Int → Int → Int → Int → St → Prop) (x2 : Int) (x3 : Int) (x4 : Int) (x6 : Int) (s0 : Int) (s1 : Int) (σ : St) : Prop :=
 ∀ v12 : Int, v12 = l_or s1 s0 →
 ((x3 = 0) →
 wp_X2_gatherCases_c43_b159 Q K23 x2 x3 x6 (l_and x4 v12) σ) ∧
 (¬ (x3 = 0) →
 wp_X2_gatherCases_c43_b159 Q K23 x2 x3 x6 (l_or x4 v12) σ)
def wp_X2_gatherCases_c43_b105 (Q : Int → St → Prop) (K23 : Int → Int → Int → Int → St → Prop) (x2 : Int) (x3 : Int) (x4 : Int) (x6 : Int) (s0 : Int) (s1 : Int) (σ : St) : Prop :=
 ∀ v11 : Int, v11 = l_or s1 s0 →
 (0 ≤ x6 ∧ x6 < 3360) ∧
 ((σ 32 (x6.toNat) ≥ 0) →
 (0 ≤ x6 ∧ x6 < 3360) ∧
 (0 ≤ σ 32 (x6.toNat) ∧ σ 32 (x6.toNat) < 432) ∧
 wp_X2_gatherCases_c43_b139 Q K23 x2 x3 x4 x6 (σ 43 ((σ 32 (x6.toNat)).toNat)) v11 σ) ∧
 (¬ (σ 32 (x6.toNat) ≥ 0) →
 wp_X2_gatherCases_c43_b139 Q K23 x2 x3 x4 x6 0 v11 σ)
def wp_X2_gatherCases_c43_l23 (Q : Int → St → Prop) : Nat → Int → Int → Int → Int → St → Prop
  | 0, _, _, _, _, _ => False
  | n + 1, x2, x3, x4, x6, σ =>
    wp_X0_caseEnd x2 σ (fun r3 σ4 =>
    ((x6 ≥ r3) →
    Q x4 σ4) ∧
    (¬ (x6 ≥ r3) →
    wp_X0_goesOn x6 σ4 (fun r5 σ6 =>
    ((r5 ≠ 0) →
    wp_X2_gatherCases_c43_b161 Q (wp_X2_gatherCases_c43_l23 Q n) x2 x3 x4 x6 σ6) ∧
    (¬ (r5 ≠ 0) →
    wp_X1_isFull x6 σ6 (fun r7 σ8 =>
    ((r7 = 0) →
    wp_X2_gatherCases_c43_b161 Q (wp_X2_gatherCases_c43_l23 Q n) x2 x3 x4 x6 σ8) ∧
    (¬ (r7 = 0) →
    (0 ≤ x6 ∧ x6 < 3360) ∧
    ∀ v9 : Int, v9 = l_shl 1 (σ8 29 (x6.toNat)) →
    (0 ≤ x6 ∧ x6 < 3360) ∧
    ((σ8 31 (x6.toNat) ≥ 0) →
    (0 ≤ x6 ∧ x6 < 3360) ∧
    (0 ≤ σ8 31 (x6.toNat) ∧ σ8 31 (x6.toNat) < 432) ∧
    wp_X2_gatherCases_c43_b105 Q (wp_X2_gatherCases_c43_l23 Q n) x2 x3 x4 x6 (σ8 43 ((σ8 31 (x6.toNat)).toNat)) v9 σ8) ∧
    (¬ (σ8 31 (x6.toNat) ≥ 0) →
    wp_X2_gatherCases_c43_b105 Q (wp_X2_gatherCases_c43_l23 Q n) x2 x3 x4 x6 0 v9 σ8)))))))
def wp_X2_gatherCases_c43_b11 (Q : Int → St → Prop) (x2 : Int) (x3 : Int) (s0 : Int) (σ : St) : Prop :=
 wp_X0_caseStart x2 σ (fun r1 σ2 =>
 wp_X2_gatherCases_c43_l23 Q bigN x2 x3 s0 r1 σ2)
def wp_X2_gatherCases_c43 (x2 : Int) (x3 : Int) (σ : St) (Q : Int → St → Prop) : Prop :=
 ((x3 = 0) →
 wp_X2_gatherCases_c43_b11 Q x2 x3 ((-1)) σ) ∧
 (¬ (x3 = 0) →
 wp_X2_gatherCases_c43_b11 Q x2 x3 0 σ)
def wp_X2_gatherUnaries_c43_b130 (Q : Int → St → Prop) (K6 : Int → Int → Int → Int → St → Prop) (x2 : Int) (x3 : Int) (x4 : Int) (x5 : Int) (σ : St) : Prop :=
 ∀ v7 : Int, v7 = w32 (x5 + 1) →
 K6 x2 x3 x4 v7 σ
def wp_X2_gatherUnaries_c43_b121 (Q : Int → St → Prop) (K6 : Int → Int → Int → Int → St → Prop) (x2 : Int) (x3 : Int) (x5 : Int) (x7 : Int) (x11 : Int) (s0 : Int) (s1 : Int) (σ : St) : Prop :=
 ∀ v8 : Int, v8 = b_or s1 s0 →
 (0 ≤ x7 ∧ x7 < 432) ∧ ∀ σ9 : St, σ9 = upS σ 43 x7.toNat x11 →
 wp_X2_gatherUnaries_c43_b130 Q K6 x2 x3 v8 x5 σ9
def wp_X2_gatherUnaries_c43_b102 (Q : Int → St → Prop) (K6 : Int → Int → Int → Int → St → Prop) (x2 : Int) (x3 : Int) (x4 : Int) (x5 : Int) (x7 : Int) (s0 : Int) (σ : St) : Prop :=
 (0 ≤ x7 ∧ x7 < 432) ∧
 ((s0 = σ 43 (x7.toNat)) →
 wp_X2_gatherUnaries_c43_b121 Q K6 x2 x3 x5 x7 s0 0 x4 σ) ∧
 (¬ (s0 = σ 43 (x7.toNat)) →
 wp_X2_gatherUnaries_c43_b121 Q K6 x2 x3 x5 x7 s0 1 x4 σ)
def wp_X2_gatherUnaries_c43_l6 (Q : Int → St → Prop) : Nat → Int → Int → Int → Int → St → Prop
  | 0, _, _, _, _, _ => False
  | n + 1, x2, x3, x4, x5, σ =>
    ((x5 ≥ σ 24 12) →
    (x4 = 0 ∨ x4 = 1) ∧ Q x4 σ) ∧
    (¬ (x5 ≥ σ 24 12) →
    (0 ≤ x5 ∧ x5 < 40) ∧
    ∀ v1 : Int, v1 = σ 33 (x5.toNat) →
    (0 ≤ v1 ∧ v1 < 40) ∧
    ∀ v2 : Int, v2 = w32 (x2 + (σ 15 (v1.toNat))) →
    (0 ≤ v1 ∧ v1 < 40) ∧
    ∀ v3 : Int, v3 = w32 (x2 + (σ 16 (v1.toNat))) →
    wp_X1_has v3 σ (fun r4 σ5 =>
    ((r4 = 0) →
    wp_X2_gatherUnaries_c43_b130 Q (wp_X2_gatherUnaries_c43_l6 Q n) x2 x3 x4 x5 σ5) ∧
    (¬ (r4 = 0) →
    (0 ≤ v3 ∧ v3 < 432) ∧
    ∀ v6 : Int, v6 = l_or (l_shl 1 v1) (σ5 43 (v3.toNat)) →
    ((x3 = 0) →
    (0 ≤ v2 ∧ v2 < 432) ∧
    wp_X2_gatherUnaries_c43_b102 Q (wp_X2_gatherUnaries_c43_l6 Q n) x2 x3 x4 x5 v2 (l_and (σ5 43 (v2.toNat)) v6) σ5) ∧
    (¬ (x3 = 0) →
    (0 ≤ v2 ∧ v2 < 432) ∧
    wp_X2_gatherUnaries_c43_b102 Q (wp_X2_gatherUnaries_c43_l6 Q n) x2 x3 x4 x5 v2 (l_or (σ5 43 (v2.toNat)) v6) σ5))))
def wp_X2_gatherUnaries_c43 (x2 : Int) (x3 : Int) (σ : St) (Q : Int → St → Prop) : Prop :=
 wp_X2_gatherUnaries_c43_l6 Q bigN x2 x3 0 0 σ
def wp_X2_gather_c43_b85 (Q : Int → St → Prop) (K2 : Int → Int → St → Prop) (x2 : Int) (x3 : Int) (σ : St) : Prop :=
 ∀ v9 : Int, v9 = w32 (x3 + 1) →
 K2 x2 v9 σ
def wp_X2_gather_c43_l57 (Q : Int → St → Prop) (K2 : Int → Int → St → Prop) : Nat → Int → Int → Int → Int → Int → St → Prop
  | 0, _, _, _, _, _, _ => False
  | n + 1, x2, x3, x4, x5, x6, σ =>
    ((x6 > 12) →
    wp_X2_gather_c43_b85 Q K2 x2 x3 σ) ∧
    (¬ (x6 > 12) →
    ((x5 = 0) →
    wp_X2_gather_c43_b85 Q K2 x2 x3 σ) ∧
    (¬ (x5 = 0) →
    wp_X2_gatherUnaries_c43 x4 x2 σ (fun r6 σ7 =>
    ∀ v8 : Int, v8 = w32 (x6 + 1) →
    (wp_X2_gather_c43_l57 Q K2 n) x2 x3 x4 r6 v8 σ7)))
def wp_X2_gather_c43_l23 (Q : Int → St → Prop) (K2 : Int → Int → St → Prop) : Nat → Int → Int → Int → Int → St → Prop
  | 0, _, _, _, _, _ => False
  | n + 1, x2, x3, x4, x5, σ =>
    ((x5 ≥ w32 (x4 + 12)) →
    wp_X2_gather_c43_l57 Q K2 bigN x2 x3 x4 1 0 σ) ∧
    (¬ (x5 ≥ w32 (x4 + 12)) →
    wp_X2_gatherCases_c43 x5 x2 σ (fun r2 σ3 =>
    (0 ≤ x5 ∧ x5 < 432) ∧ ∀ σ4 : St, σ4 = upS σ3 43 x5.toNat r2 →
    ∀ v5 : Int, v5 = w32 (x5 + 1) →
    (wp_X2_gather_c43_l23 Q K2 n) x2 x3 x4 v5 σ4))
def wp_X2_gather_c43_l2 (Q : Int → St → Prop) : Nat → Int → Int → St → Prop
  | 0, _, _, _ => False
  | n + 1, x2, x3, σ =>
    ((x3 ≥ σ 24 3) →
    Q 0 σ) ∧
    (¬ (x3 ≥ σ 24 3) →
    ∀ v1 : Int, v1 = w32 (x3 * 12) →
    wp_X2_gather_c43_l23 Q (wp_X2_gather_c43_l2 Q n) bigN x2 x3 v1 v1 σ)
def wp_X2_gather_c43 (x2 : Int) (σ : St) (Q : Int → St → Prop) : Prop :=
 wp_X2_gather_c43_l2 Q bigN x2 0 σ
def wp_X2_inSome_b28 (Q : Int → St → Prop) (x1 : Int) (σ : St) : Prop :=
 (0 ≤ x1 ∧ x1 < 432) ∧
 Q (σ 43 (x1.toNat)) σ
def wp_X2_inSome (x1 : Int) (σ : St) (Q : Int → St → Prop) : Prop :=
 wp_X1_prepare σ (fun r1 σ2 =>
 ((σ2 41 7 ≠ 0) →
 wp_X2_inSome_b28 Q x1 σ2) ∧
 (¬ (σ2 41 7 ≠ 0) →
 ∀ σ3 : St, σ3 = upS σ2 41 7 1 →
 wp_X2_gather_c43 1 σ3 (fun r4 σ5 =>
 wp_X2_inSome_b28 Q x1 σ5)))
def wp_X11_used (x1 : Int) (x2 : Int) (x3 : Int) (x4 : Int) (σ : St) (Q : Int → St → Prop) : Prop :=
 wp_X11_itemOf x1 x2 x3 σ (fun r1 σ2 =>
 ((r1 < 0) →
 Q ((-2)) σ2) ∧
 (¬ (r1 < 0) →
 ((x4 < 0) →
 Q ((-2)) σ2) ∧
 (¬ (x4 < 0) →
 ((x4 ≤ 1) →
 ((x4 ≠ 0) →
 wp_X2_inEach r1 σ2 (fun r3 σ4 =>
 Q r3 σ4)) ∧
 (¬ (x4 ≠ 0) →
 wp_X2_inSome r1 σ2 (fun r5 σ6 =>
 Q r5 σ6))) ∧
 (¬ (x4 ≤ 1) →
 Q ((-2)) σ2))))
def wp_J7_fill_53178_C_c48_l5 (Q : Int → St → Prop) : Nat → Int → Int → Int → St → Prop
  | 0, _, _, _, _ => False
  | n + 1, x1, x2, x3, σ =>
    ((x2 ≥ x3) →
    Q 0 σ) ∧
    (¬ (x2 ≥ x3) →
    (0 ≤ x2 ∧ x2 < 156) ∧ ∀ σ1 : St, σ1 = upS σ 48 x2.toNat x1 →
    ∀ v2 : Int, v2 = w32 (x2 + 1) →
    (wp_J7_fill_53178_C_c48_l5 Q n) x1 v2 x3 σ1)
def wp_J7_fill_53178_C_c48 (x1 : Int) (σ : St) (Q : Int → St → Prop) : Prop :=
 wp_J7_fill_53178_C_c48_l5 Q bigN x1 0 156 σ
def wp_X7_swapRows_l2 (Q : Int → St → Prop) : Nat → Int → Int → Int → St → Prop
  | 0, _, _, _, _ => False
  | n + 1, x1, x2, x3, σ =>
    ((x3 ≥ 13) →
    Q 0 σ) ∧
    (¬ (x3 ≥ 13) →
    ((x1 = x2) →
    Q 0 σ) ∧
    (¬ (x1 = x2) →
    (0 ≤ w32 ((w32 (x1 * 13)) + x3) ∧ w32 ((w32 (x1 * 13)) + x3) < 156) ∧
    ∀ v1 : Int, v1 = σ 48 ((w32 ((w32 (x1 * 13)) + x3)).toNat) →
    (0 ≤ w32 ((w32 (x2 * 13)) + x3) ∧ w32 ((w32 (x2 * 13)) + x3) < 156) ∧
    (0 ≤ w32 ((w32 (x1 * 13)) + x3) ∧ w32 ((w32 (x1 * 13)) + x3) < 156) ∧ ∀ σ2 : St, σ2 = upS σ 48 (w32 ((w32 (x1 * 13)) + x3)).toNat (σ 48 ((w32 ((w32 (x2 * 13)) + x3)).toNat)) →
    (0 ≤ w32 ((w32 (x2 * 13)) + x3) ∧ w32 ((w32 (x2 * 13)) + x3) < 156) ∧ ∀ σ3 : St, σ3 = upS σ2 48 (w32 ((w32 (x2 * 13)) + x3)).toNat v1 →
    ∀ v4 : Int, v4 = w32 (x3 + 1) →
    (wp_X7_swapRows_l2 Q n) x1 x2 v4 σ3))
def wp_X7_swapRows (x1 : Int) (x2 : Int) (σ : St) (Q : Int → St → Prop) : Prop :=
 wp_X7_swapRows_l2 Q bigN x1 x2 0 σ
def wp_X7_inverse_b27 (Q : Int → St → Prop) (K8 : Int → Int → Int → St → Prop) (x1 : Int) (x2 : Int) (x3 : Int) (σ : St) : Prop :=
 ∀ v2 : Int, v2 = b_rem (w32 (x2 * x2)) 9973 →
 ∀ v3 : Int, v3 = b_shr x3 1 →
 K8 x1 v2 v3 σ
def wp_X7_inverse_l8 (Q : Int → St → Prop) : Nat → Int → Int → Int → St → Prop
  | 0, _, _, _, _ => False
  | n + 1, x1, x2, x3, σ =>
    ((x3 ≤ 0) →
    Q x1 σ) ∧
    (¬ (x3 ≤ 0) →
    ((b_and x3 1 ≠ 1) →
    wp_X7_inverse_b27 Q (wp_X7_inverse_l8 Q n) x1 x2 x3 σ) ∧
    (¬ (b_and x3 1 ≠ 1) →
    ∀ v1 : Int, v1 = b_rem (w32 (x1 * x2)) 9973 →
    wp_X7_inverse_b27 Q (wp_X7_inverse_l8 Q n) v1 x2 x3 σ))
def wp_X7_inverse (x0 : Int) (σ : St) (Q : Int → St → Prop) : Prop :=
 wp_X7_inverse_l8 Q bigN 1 x0 9971 σ
def wp_X7_scaleRow_l2 (Q : Int → St → Prop) : Nat → Int → Int → Int → St → Prop
  | 0, _, _, _, _ => False
  | n + 1, x1, x2, x3, σ =>
    ((x3 ≥ 13) →
    Q 0 σ) ∧
    (¬ (x3 ≥ 13) →
    ((x2 = 1) →
    Q 0 σ) ∧
    (¬ (x2 = 1) →
    (0 ≤ w32 ((w32 (x1 * 13)) + x3) ∧ w32 ((w32 (x1 * 13)) + x3) < 156) ∧
    (0 ≤ w32 ((w32 (x1 * 13)) + x3) ∧ w32 ((w32 (x1 * 13)) + x3) < 156) ∧ ∀ σ1 : St, σ1 = upS σ 48 (w32 ((w32 (x1 * 13)) + x3)).toNat (b_rem (w32 ((σ 48 ((w32 ((w32 (x1 * 13)) + x3)).toNat)) * x2)) 9973) →
    ∀ v2 : Int, v2 = w32 (x3 + 1) →
    (wp_X7_scaleRow_l2 Q n) x1 x2 v2 σ1))
def wp_X7_scaleRow (x1 : Int) (x2 : Int) (σ : St) (Q : Int → St → Prop) : Prop :=
 wp_X7_scaleRow_l2 Q bigN x1 x2 0 σ
def wp_J9_floorMod_7cf53_C (x0 : Int) (x1 : Int) (σ : St) (Q : Int → St → Prop) : Prop :=
 x1 ≠ 0 ∧
 ∀ v1 : Int, v1 = b_rem x0 x1 →
 ((b_xor x0 x1 ≥ 0) →
 Q v1 σ) ∧
 (¬ (b_xor x0 x1 ≥ 0) →
 ((v1 = 0) →
 Q v1 σ) ∧
 (¬ (v1 = 0) →
 Q (w32 (v1 + x1)) σ))
def wp_X7_subtractRow_l3 (Q : Int → St → Prop) : Nat → Int → Int → Int → Int → St → Prop
  | 0, _, _, _, _, _ => False
  | n + 1, x1, x2, x3, x4, σ =>
    ((x4 ≥ 13) →
    Q 0 σ) ∧
    (¬ (x4 ≥ 13) →
    ((x3 = 0) →
    Q 0 σ) ∧
    (¬ (x3 = 0) →
    (0 ≤ w32 ((w32 (x2 * 13)) + x4) ∧ w32 ((w32 (x2 * 13)) + x4) < 156) ∧
    ∀ v1 : Int, v1 = b_rem (w32 ((σ 48 ((w32 ((w32 (x2 * 13)) + x4)).toNat)) * x3)) 9973 →
    (0 ≤ w32 ((w32 (x1 * 13)) + x4) ∧ w32 ((w32 (x1 * 13)) + x4) < 156) ∧
    wp_J9_floorMod_7cf53_C (w32 ((σ 48 ((w32 ((w32 (x1 * 13)) + x4)).toNat)) - v1)) 9973 σ (fun r2 σ3 =>
    (0 ≤ w32 ((w32 (x1 * 13)) + x4) ∧ w32 ((w32 (x1 * 13)) + x4) < 156) ∧ ∀ σ4 : St, σ4 = upS σ3 48 (w32 ((w32 (x1 * 13)) + x4)).toNat r2 →
    ∀ v5 : Int, v5 = w32 (x4 + 1) →
    (wp_X7_subtractRow_l3 Q n) x1 x2 x3 v5 σ4)))
def wp_X7_subtractRow (x1 : Int) (x2 : Int) (x3 : Int) (σ : St) (Q : Int → St → Prop) : Prop :=
 wp_X7_subtractRow_l3 Q bigN x1 x2 x3 0 σ
def wp_X7_eliminate_b100 (Q : Int → St → Prop) (K2 : Int → Int → St → Prop) (K69 : Int → Int → Int → St → Prop) (x1 : Int) (x2 : Int) (x4 : Int) (σ : St) : Prop :=
 ∀ v11 : Int, v11 = w32 (x4 + 1) →
 K69 x1 x2 v11 σ
def wp_X7_eliminate_l69 (Q : Int → St → Prop) (K2 : Int → Int → St → Prop) : Nat → Int → Int → Int → St → Prop
  | 0, _, _, _, _ => False
  | n + 1, x1, x2, x4, σ =>
    ((x4 ≥ x1) →
    ∀ v8 : Int, v8 = w32 (x2 + 1) →
    K2 x1 v8 σ) ∧
    (¬ (x4 ≥ x1) →
    ((x4 = x2) →
    wp_X7_eliminate_b100 Q K2 (wp_X7_eliminate_l69 Q K2 n) x1 x2 x4 σ) ∧
    (¬ (x4 = x2) →
    (0 ≤ w32 ((w32 (x4 * 13)) + x2) ∧ w32 ((w32 (x4 * 13)) + x2) < 156) ∧
    wp_X7_subtractRow x4 x2 (σ 48 ((w32 ((w32 (x4 * 13)) + x2)).toNat)) σ (fun r9 σ10 =>
    wp_X7_eliminate_b100 Q K2 (wp_X7_eliminate_l69 Q K2 n) x1 x2 x4 σ10)))
def wp_X7_eliminate_b34 (Q : Int → St → Prop) (K2 : Int → Int → St → Prop) (x1 : Int) (x2 : Int) (x3 : Int) (σ : St) : Prop :=
 ((x3 < x1) →
 wp_X7_swapRows x3 x2 σ (fun r2 σ3 =>
 (0 ≤ w32 ((w32 (x2 * 13)) + x2) ∧ w32 ((w32 (x2 * 13)) + x2) < 156) ∧
 wp_X7_inverse (σ3 48 ((w32 ((w32 (x2 * 13)) + x2)).toNat)) σ3 (fun r4 σ5 =>
 wp_X7_scaleRow x2 r4 σ5 (fun r6 σ7 =>
 wp_X7_eliminate_l69 Q K2 bigN x1 x2 0 σ7)))) ∧
 (¬ (x3 < x1) →
 Q 0 σ)
def wp_X7_eliminate_l9 (Q : Int → St → Prop) (K2 : Int → Int → St → Prop) : Nat → Int → Int → Int → St → Prop
  | 0, _, _, _, _ => False
  | n + 1, x1, x2, x3, σ =>
    ((x3 ≥ x1) →
    wp_X7_eliminate_b34 Q K2 x1 x2 x3 σ) ∧
    (¬ (x3 ≥ x1) →
    (0 ≤ w32 ((w32 (x3 * 13)) + x2) ∧ w32 ((w32 (x3 * 13)) + x2) < 156) ∧
    ((σ 48 ((w32 ((w32 (x3 * 13)) + x2)).toNat) ≠ 0) →
    wp_X7_eliminate_b34 Q K2 x1 x2 x3 σ) ∧
    (¬ (σ 48 ((w32 ((w32 (x3 * 13)) + x2)).toNat) ≠ 0) →
    ∀ v1 : Int, v1 = w32 (x3 + 1) →
    (wp_X7_eliminate_l9 Q K2 n) x1 x2 v1 σ))
def wp_X7_eliminate_l2 (Q : Int → St → Prop) : Nat → Int → Int → St → Prop
  | 0, _, _, _ => False
  | n + 1, x1, x2, σ =>
    ((x2 ≥ x1) →
    Q 1 σ) ∧
    (¬ (x2 ≥ x1) →
    wp_X7_eliminate_l9 Q (wp_X7_eliminate_l2 Q n) bigN x1 x2 x2 σ)
def wp_X7_eliminate (x1 : Int) (σ : St) (Q : Int → St → Prop) : Prop :=
 wp_X7_eliminate_l2 Q bigN x1 0 σ
def wp_X7_setEquation_b261 (Q : Int → St → Prop) (K24 : Int → Int → Int → St → Prop) (x1 : Int) (x3 : Int) (x4 : Int) (σ : St) : Prop :=
 ∀ v18 : Int, v18 = w32 (x4 + 1) →
 K24 x1 x3 v18 σ
def wp_X7_setEquation_b229 (Q : Int → St → Prop) (K24 : Int → Int → Int → St → Prop) (x1 : Int) (x3 : Int) (x4 : Int) (s0 : Int) (s1 : Int) (σ : St) : Prop :=
 ∀ v20 : Int, v20 = b_rem (w32 (s1 * s0)) 9973 →
 (0 ≤ w32 (x3 + 12) ∧ w32 (x3 + 12) < 156) ∧
 (0 ≤ w32 (x3 + 12) ∧ w32 (x3 + 12) < 156) ∧ ∀ σ21 : St, σ21 = upS σ 48 (w32 (x3 + 12)).toNat (b_rem (w32 ((σ 48 ((w32 (x3 + 12)).toNat)) + v20)) 9973) →
 wp_X7_setEquation_b261 Q K24 x1 x3 x4 σ21
def wp_X7_setEquation_b204 (Q : Int → St → Prop) (K24 : Int → Int → Int → St → Prop) (x1 : Int) (x3 : Int) (x4 : Int) (x7 : Int) (s0 : Int) (s1 : Int) (σ : St) : Prop :=
 ∀ v19 : Int, v19 = b_rem (w32 (s1 * s0)) 9973 →
 ((x7 ≥ 0) →
 (0 ≤ x7 ∧ x7 < 432) ∧
 wp_X7_setEquation_b229 Q K24 x1 x3 x4 (σ 46 (x7.toNat)) v19 σ) ∧
 (¬ (x7 ≥ 0) →
 wp_X7_setEquation_b229 Q K24 x1 x3 x4 1 v19 σ)
def wp_X7_setEquation_b186 (Q : Int → St → Prop) (K24 : Int → Int → Int → St → Prop) (x1 : Int) (x3 : Int) (x4 : Int) (x5 : Int) (x6 : Int) (x7 : Int) (σ : St) : Prop :=
 ((x6 ≥ 0) →
 (0 ≤ x6 ∧ x6 < 432) ∧
 wp_X7_setEquation_b204 Q K24 x1 x3 x4 x7 (σ 46 (x6.toNat)) x5 σ) ∧
 (¬ (x6 ≥ 0) →
 wp_X7_setEquation_b204 Q K24 x1 x3 x4 x7 1 x5 σ)
def wp_X7_setEquation_b166 (Q : Int → St → Prop) (K24 : Int → Int → Int → St → Prop) (x1 : Int) (x3 : Int) (x4 : Int) (x5 : Int) (x6 : Int) (x7 : Int) (σ : St) : Prop :=
 ((x7 < 0) →
 wp_X7_setEquation_b186 Q K24 x1 x3 x4 x5 x6 x7 σ) ∧
 (¬ (x7 < 0) →
 (0 ≤ b_div x7 12 ∧ b_div x7 12 < 36) ∧
 ((σ 47 ((b_div x7 12).toNat) = 0) →
 wp_X7_setEquation_b186 Q K24 x1 x3 x4 x5 x6 x7 σ) ∧
 (¬ (σ 47 ((b_div x7 12).toNat) = 0) →
 Q 0 σ))
def wp_X7_setEquation_l24 (Q : Int → St → Prop) : Nat → Int → Int → Int → St → Prop
  | 0, _, _, _, _ => False
  | n + 1, x1, x3, x4, σ =>
    wp_X0_caseEnd x1 σ (fun r5 σ6 =>
    ((x4 ≥ r5) →
    Q 1 σ6) ∧
    (¬ (x4 ≥ r5) →
    (0 ≤ x4 ∧ x4 < 3360) ∧
    (0 ≤ σ6 29 (x4.toNat) ∧ σ6 29 (x4.toNat) < 40) ∧
    ∀ v7 : Int, v7 = σ6 18 ((σ6 29 (x4.toNat)).toNat) →
    (0 ≤ x4 ∧ x4 < 3360) ∧
    ∀ v8 : Int, v8 = σ6 31 (x4.toNat) →
    (0 ≤ x4 ∧ x4 < 3360) ∧
    ∀ v9 : Int, v9 = σ6 32 (x4.toNat) →
    wp_X1_isFull x4 σ6 (fun r10 σ11 =>
    ((r10 ≠ 0) →
    wp_X0_goesOn x4 σ11 (fun r12 σ13 =>
    ((r12 = 0) →
    ((v8 < 0) →
    wp_X7_setEquation_b166 Q (wp_X7_setEquation_l24 Q n) x1 x3 x4 v7 v8 v9 σ13) ∧
    (¬ (v8 < 0) →
    (0 ≤ b_div v8 12 ∧ b_div v8 12 < 36) ∧
    ((σ13 47 ((b_div v8 12).toNat) ≠ 0) →
    Q 0 σ13) ∧
    (¬ (σ13 47 ((b_div v8 12).toNat) ≠ 0) →
    wp_X7_setEquation_b166 Q (wp_X7_setEquation_l24 Q n) x1 x3 x4 v7 v8 v9 σ13))) ∧
    (¬ (r12 = 0) →
    (0 ≤ b_rem v8 12 ∧ b_rem v8 12 < 12) ∧
    ∀ v14 : Int, v14 = w32 (x3 + (σ13 49 ((b_rem v8 12).toNat))) →
    (0 ≤ v14 ∧ v14 < 156) ∧
    wp_J9_floorMod_7cf53_C (w32 ((σ13 48 (v14.toNat)) - v7)) 9973 σ13 (fun r15 σ16 =>
    (0 ≤ v14 ∧ v14 < 156) ∧ ∀ σ17 : St, σ17 = upS σ16 48 v14.toNat r15 →
    wp_X7_setEquation_b261 Q (wp_X7_setEquation_l24 Q n) x1 x3 x4 σ17)))) ∧
    (¬ (r10 ≠ 0) →
    wp_X7_setEquation_b261 Q (wp_X7_setEquation_l24 Q n) x1 x3 x4 σ11))))
def wp_X7_setEquation (x1 : Int) (x2 : Int) (σ : St) (Q : Int → St → Prop) : Prop :=
 ∀ v1 : Int, v1 = w32 (x2 * 13) →
 (0 ≤ w32 (v1 + x2) ∧ w32 (v1 + x2) < 156) ∧ ∀ σ2 : St, σ2 = upS σ 48 (w32 (v1 + x2)).toNat 1 →
 wp_X0_caseStart x1 σ2 (fun r3 σ4 =>
 wp_X7_setEquation_l24 Q bigN x1 v1 r3 σ4)
def wp_X7_solveSpan_b42 (Q : Int → St → Prop) (K10 : Int → Int → Int → Int → St → Prop) (x1 : Int) (x2 : Int) (x3 : Int) (x4 : Int) (σ : St) : Prop :=
 ∀ v15 : Int, v15 = w32 (x4 + 1) →
 K10 x1 x2 x3 v15 σ
def wp_X7_solveSpan_b103 (Q : Int → St → Prop) (K62 : Int → Int → Int → Int → Int → St → Prop) (x1 : Int) (x2 : Int) (x3 : Int) (x4 : Int) (x5 : Int) (σ : St) : Prop :=
 ∀ v16 : Int, v16 = w32 (x5 + 1) →
 K62 x1 x2 x3 x4 v16 σ
def wp_X7_solveSpan_b216 (Q : Int → St → Prop) (K148 : Int → Int → Int → St → Prop) (x2 : Int) (x4 : Int) (x5 : Int) (s0 : Int) (s1 : Int) (σ : St) : Prop :=
 (0 ≤ s1 ∧ s1 < 432) ∧ ∀ σ20 : St, σ20 = upS σ 46 s1.toNat s0 →
 ∀ v21 : Int, v21 = w32 (x5 + 1) →
 K148 x2 x4 v21 σ20
def wp_X7_solveSpan_b179 (Q : Int → St → Prop) (K148 : Int → Int → Int → St → Prop) (x2 : Int) (x4 : Int) (x5 : Int) (s0 : Int) (σ : St) : Prop :=
 ((s0 = 0) →
 wp_X7_solveSpan_b216 Q K148 x2 x4 x5 0 (w32 (x2 + x5)) σ) ∧
 (¬ (s0 = 0) →
 (0 ≤ x5 ∧ x5 < 12) ∧
 (0 ≤ w32 ((w32 ((σ 49 (x5.toNat)) * 13)) + 12) ∧ w32 ((w32 ((σ 49 (x5.toNat)) * 13)) + 12) < 156) ∧
 wp_X7_solveSpan_b216 Q K148 x2 x4 x5 (σ 48 ((w32 ((w32 ((σ 49 (x5.toNat)) * 13)) + 12)).toNat)) (w32 (x2 + x5)) σ)
def wp_X7_solveSpan_b178 (Q : Int → St → Prop) (K148 : Int → Int → Int → St → Prop) (x2 : Int) (x4 : Int) (x5 : Int) (σ : St) : Prop :=
 wp_X7_solveSpan_b179 Q K148 x2 x4 x5 0 σ
def wp_X7_solveSpan_l148 (Q : Int → St → Prop) : Nat → Int → Int → Int → St → Prop
  | 0, _, _, _, _ => False
  | n + 1, x2, x4, x5, σ =>
    ((x5 ≥ 12) →
    Q 0 σ) ∧
    (¬ (x5 ≥ 12) →
    ((x4 = 0) →
    wp_X7_solveSpan_b178 Q (wp_X7_solveSpan_l148 Q n) x2 x4 x5 σ) ∧
    (¬ (x4 = 0) →
    wp_X1_has (w32 (x2 + x5)) σ (fun r18 σ19 =>
    ((r18 = 0) →
    wp_X7_solveSpan_b178 Q (wp_X7_solveSpan_l148 Q n) x2 x4 x5 σ19) ∧
    (¬ (r18 = 0) →
    wp_X7_solveSpan_b179 Q (wp_X7_solveSpan_l148 Q n) x2 x4 x5 1 σ19))))
def wp_X7_solveSpan_b144 (Q : Int → St → Prop) (x2 : Int) (x4 : Int) (s0 : Int) (s1 : Int) (σ : St) : Prop :=
 (0 ≤ s1 ∧ s1 < 36) ∧ ∀ σ17 : St, σ17 = upS σ 47 s1.toNat (b_and s0 1) →
 wp_X7_solveSpan_l148 Q bigN x2 x4 0 σ17
def wp_X7_solveSpan_b127 (Q : Int → St → Prop) (x1 : Int) (x2 : Int) (s0 : Int) (σ : St) : Prop :=
 ((s0 ≠ 0) →
 wp_X7_solveSpan_b144 Q x2 s0 0 x1 σ) ∧
 (¬ (s0 ≠ 0) →
 wp_X7_solveSpan_b144 Q x2 s0 1 x1 σ)
def wp_X7_solveSpan_b126 (Q : Int → St → Prop) (x1 : Int) (x2 : Int) (σ : St) : Prop :=
 wp_X7_solveSpan_b127 Q x1 x2 0 σ
def wp_X7_solveSpan_l62 (Q : Int → St → Prop) : Nat → Int → Int → Int → Int → Int → St → Prop
  | 0, _, _, _, _, _, _ => False
  | n + 1, x1, x2, x3, x4, x5, σ =>
    ((x5 ≥ 12) →
    ((x4 = 0) →
    wp_X7_solveSpan_b126 Q x1 x2 σ) ∧
    (¬ (x4 = 0) →
    wp_X7_eliminate x3 σ (fun r8 σ9 =>
    ((r8 = 0) →
    wp_X7_solveSpan_b126 Q x1 x2 σ9) ∧
    (¬ (r8 = 0) →
    wp_X7_solveSpan_b127 Q x1 x2 1 σ9)))) ∧
    (¬ (x5 ≥ 12) →
    wp_X1_has (w32 (x2 + x5)) σ (fun r10 σ11 =>
    ((r10 = 0) →
    wp_X7_solveSpan_b103 Q (wp_X7_solveSpan_l62 Q n) x1 x2 x3 x4 x5 σ11) ∧
    (¬ (r10 = 0) →
    (0 ≤ x5 ∧ x5 < 12) ∧
    wp_X7_setEquation (w32 (x2 + x5)) (σ11 49 (x5.toNat)) σ11 (fun r12 σ13 =>
    ∀ v14 : Int, v14 = b_and x4 r12 →
    wp_X7_solveSpan_b103 Q (wp_X7_solveSpan_l62 Q n) x1 x2 x3 v14 x5 σ13))))
def wp_X7_solveSpan_l10 (Q : Int → St → Prop) : Nat → Int → Int → Int → Int → St → Prop
  | 0, _, _, _, _, _ => False
  | n + 1, x1, x2, x3, x4, σ =>
    ((x4 ≥ 12) →
    wp_J7_fill_53178_C_c48 0 σ (fun r2 σ3 =>
    wp_X7_solveSpan_l62 Q bigN x1 x2 x3 1 0 σ3)) ∧
    (¬ (x4 ≥ 12) →
    (0 ≤ x4 ∧ x4 < 12) ∧ ∀ σ4 : St, σ4 = upS σ 49 x4.toNat x3 →
    wp_X1_has (w32 (x2 + x4)) σ4 (fun r5 σ6 =>
    ((r5 = 0) →
    wp_X7_solveSpan_b42 Q (wp_X7_solveSpan_l10 Q n) x1 x2 x3 x4 σ6) ∧
    (¬ (r5 = 0) →
    ∀ v7 : Int, v7 = w32 (x3 + 1) →
    wp_X7_solveSpan_b42 Q (wp_X7_solveSpan_l10 Q n) x1 x2 v7 x4 σ6)))
def wp_X7_solveSpan (x1 : Int) (σ : St) (Q : Int → St → Prop) : Prop :=
 ∀ v1 : Int, v1 = w32 (x1 * 12) →
 wp_X7_solveSpan_l10 Q bigN x1 v1 0 0 σ
def wp_X7_sumOf_b43 (Q : Int → St → Prop) (x1 : Int) (σ : St) : Prop :=
 wp_X1_has x1 σ (fun r4 σ5 =>
 ((r4 ≠ 0) →
 (0 ≤ b_div x1 12 ∧ b_div x1 12 < 36) ∧
 ((σ5 47 ((b_div x1 12).toNat) = 0) →
 (0 ≤ x1 ∧ x1 < 432) ∧
 Q (σ5 46 (x1.toNat)) σ5) ∧
 (¬ (σ5 47 ((b_div x1 12).toNat) = 0) →
 Q ((-1)) σ5)) ∧
 (¬ (r4 ≠ 0) →
 Q 0 σ5))
def wp_X7_sumOf_l21 (Q : Int → St → Prop) : Nat → Int → Int → St → Prop
  | 0, _, _, _ => False
  | n + 1, x1, x2, σ =>
    ((x2 ≥ σ 24 3) →
    wp_X7_sumOf_b43 Q x1 σ) ∧
    (¬ (x2 ≥ σ 24 3) →
    wp_X7_solveSpan x2 σ (fun r6 σ7 =>
    ∀ v8 : Int, v8 = w32 (x2 + 1) →
    (wp_X7_sumOf_l21 Q n) x1 v8 σ7))
def wp_X7_sumOf (x1 : Int) (σ : St) (Q : Int → St → Prop) : Prop :=
 wp_X1_prepare σ (fun r1 σ2 =>
 ((σ2 45 7 ≠ 0) →
 wp_X7_sumOf_b43 Q x1 σ2) ∧
 (¬ (σ2 45 7 ≠ 0) →
 ∀ σ3 : St, σ3 = upS σ2 45 7 1 →
 wp_X7_sumOf_l21 Q bigN x1 0 σ3))
def wp_X11_sum (x1 : Int) (x2 : Int) (x3 : Int) (σ : St) (Q : Int → St → Prop) : Prop :=
 wp_X11_itemOf x1 x2 x3 σ (fun r1 σ2 =>
 ((r1 ≥ 0) →
 wp_X7_sumOf r1 σ2 (fun r3 σ4 =>
 Q r3 σ4)) ∧
 (¬ (r1 ≥ 0) →
 Q ((-2)) σ2))
def wp_J7_fill_53178_C_c51_l5 (Q : Int → St → Prop) : Nat → Int → Int → Int → St → Prop
  | 0, _, _, _, _ => False
  | n + 1, x1, x2, x3, σ =>
    ((x2 ≥ x3) →
    Q 0 σ) ∧
    (¬ (x2 ≥ x3) →
    (0 ≤ x2 ∧ x2 < 432) ∧ ∀ σ1 : St, σ1 = upS σ 51 x2.toNat x1 →
    ∀ v2 : Int, v2 = w32 (x2 + 1) →
    (wp_J7_fill_53178_C_c51_l5 Q n) x1 v2 x3 σ1)
def wp_J7_fill_53178_C_c51 (x1 : Int) (σ : St) (Q : Int → St → Prop) : Prop :=
 wp_J7_fill_53178_C_c51_l5 Q bigN x1 0 432 σ
def wp_X9_partValue (x1 : Int) (σ : St) (Q : Int → St → Prop) : Prop :=
 ((x1 ≥ 0) →
 (0 ≤ x1 ∧ x1 < 432) ∧
 Q (σ 51 (x1.toNat)) σ) ∧
 (¬ (x1 ≥ 0) →
 Q (σ 14 9) σ)
def wp_X9_renewed_b105 (Q : Int → St → Prop) (K17 : Int → Int → Int → St → Prop) (x1 : Int) (x2 : Int) (x3 : Int) (x4 : Int) (σ : St) : Prop :=
 wp_X4_plus x2 x4 σ (fun r14 σ15 =>
 ∀ v16 : Int, v16 = w32 (x3 + 1) →
 K17 x1 r14 v16 σ15)
def wp_X9_renewed_l17 (Q : Int → St → Prop) : Nat → Int → Int → Int → St → Prop
  | 0, _, _, _, _ => False
  | n + 1, x1, x2, x3, σ =>
    wp_X0_caseEnd x1 σ (fun r4 σ5 =>
    ((x3 ≥ r4) →
    Q x2 σ5) ∧
    (¬ (x3 ≥ r4) →
    (0 ≤ x3 ∧ x3 < 3360) ∧
    (0 ≤ σ5 29 (x3.toNat) ∧ σ5 29 (x3.toNat) < 40) ∧
    (0 ≤ x3 ∧ x3 < 3360) ∧
    wp_X9_partValue (σ5 31 (x3.toNat)) σ5 (fun r6 σ7 =>
    wp_X4_times (σ5 19 ((σ5 29 (x3.toNat)).toNat)) r6 σ7 (fun r8 σ9 =>
    (0 ≤ x3 ∧ x3 < 3360) ∧
    ((σ9 30 (x3.toNat) = (-1)) →
    wp_X9_renewed_b105 Q (wp_X9_renewed_l17 Q n) x1 x2 x3 r8 σ9) ∧
    (¬ (σ9 30 (x3.toNat) = (-1)) →
    (0 ≤ x3 ∧ x3 < 3360) ∧
    wp_X9_partValue (σ9 32 (x3.toNat)) σ9 (fun r10 σ11 =>
    wp_X4_times r8 r10 σ11 (fun r12 σ13 =>
    wp_X9_renewed_b105 Q (wp_X9_renewed_l17 Q n) x1 x2 x3 r12 σ13)))))))
def wp_X9_renewed (x1 : Int) (σ : St) (Q : Int → St → Prop) : Prop :=
 ∀ v1 : Int, v1 = σ 14 8 →
 wp_X0_caseStart x1 σ (fun r2 σ3 =>
 wp_X9_renewed_l17 Q bigN x1 v1 r2 σ3)
def wp_X9_changeAll_b49 (Q : Int → St → Prop) (K12 : Int → Int → Int → St → Prop) (x2 : Int) (x3 : Int) (s0 : Int) (s1 : Int) (σ : St) : Prop :=
 ∀ v7 : Int, v7 = b_or s1 s0 →
 ∀ v8 : Int, v8 = w32 (x3 + 1) →
 K12 v7 x2 v8 σ
def wp_X9_changeAll_l12 (Q : Int → St → Prop) : Nat → Int → Int → Int → St → Prop
  | 0, _, _, _, _ => False
  | n + 1, x1, x2, x3, σ =>
    ((x3 ≥ x2) →
    0 ≤ (0 : Int) ∧ 0 ≤ (0 : Int) ∧ 0 ≤ (x2 : Int) ∧ (0 : Int) + x2 ≤ 432 ∧ (0 : Int) + x2 ≤ 432 ∧ ∀ σ3 : St, σ3 = copyS σ 52 51 (Int.toNat 0) (Int.toNat 0) (Int.toNat x2) →
    (x1 = 0 ∨ x1 = 1) ∧ Q x1 σ3) ∧
    (¬ (x3 ≥ x2) →
    wp_X9_renewed x3 σ (fun r4 σ5 =>
    (0 ≤ x3 ∧ x3 < 432) ∧ ∀ σ6 : St, σ6 = upS σ5 52 x3.toNat r4 →
    (0 ≤ x3 ∧ x3 < 432) ∧
    (0 ≤ x3 ∧ x3 < 432) ∧
    ((σ6 52 (x3.toNat) = σ6 51 (x3.toNat)) →
    wp_X9_changeAll_b49 Q (wp_X9_changeAll_l12 Q n) x2 x3 0 x1 σ6) ∧
    (¬ (σ6 52 (x3.toNat) = σ6 51 (x3.toNat)) →
    wp_X9_changeAll_b49 Q (wp_X9_changeAll_l12 Q n) x2 x3 1 x1 σ6)))
def wp_X9_changeAll (σ : St) (Q : Int → St → Prop) : Prop :=
 wp_X0_itemCount σ (fun r1 σ2 =>
 wp_X9_changeAll_l12 Q bigN 0 r1 0 σ2)
def wp_X9_roundsTaken_b68 (Q : Int → St → Prop) (K41 : Int → St → Prop) (x1 : Int) (σ : St) : Prop :=
 ∀ v10 : Int, v10 = w32 (x1 + 1) →
 K41 v10 σ
def wp_X9_roundsTaken_l41 (Q : Int → St → Prop) : Nat → Int → St → Prop
  | 0, _, _ => False
  | n + 1, x1, σ =>
    ((x1 > 100) →
    Q (σ 50 5) σ) ∧
    (¬ (x1 > 100) →
    ((σ 50 5 ≠ (-6)) →
    Q (σ 50 5) σ) ∧
    (¬ (σ 50 5 ≠ (-6)) →
    wp_X9_changeAll σ (fun r7 σ8 =>
    ((r7 ≠ 0) →
    wp_X9_roundsTaken_b68 Q (wp_X9_roundsTaken_l41 Q n) x1 σ8) ∧
    (¬ (r7 ≠ 0) →
    ∀ σ9 : St, σ9 = upS σ8 50 5 x1 →
    wp_X9_roundsTaken_b68 Q (wp_X9_roundsTaken_l41 Q n) x1 σ9))))
def wp_X9_roundsTaken (σ : St) (Q : Int → St → Prop) : Prop :=
 wp_X0_build σ (fun r1 σ2 =>
 ((σ2 50 6 ≠ 0) →
 Q (σ2 50 5) σ2) ∧
 (¬ (σ2 50 6 ≠ 0) →
 ∀ σ3 : St, σ3 = upS σ2 50 6 1 →
 ∀ σ4 : St, σ4 = upS σ3 50 5 ((-6)) →
 wp_J7_fill_53178_C_c51 (σ4 14 8) σ4 (fun r5 σ6 =>
 wp_X9_roundsTaken_l41 Q bigN 1 σ6)))
def wp_X9_valueOf (x1 : Int) (σ : St) (Q : Int → St → Prop) : Prop :=
 wp_X9_roundsTaken σ (fun r1 σ2 =>
 ((r1 ≠ (-6)) →
 (0 ≤ x1 ∧ x1 < 432) ∧
 Q (σ2 51 (x1.toNat)) σ2) ∧
 (¬ (r1 ≠ (-6)) →
 Q ((-6)) σ2))
def wp_X11_value (x1 : Int) (x2 : Int) (x3 : Int) (σ : St) (Q : Int → St → Prop) : Prop :=
 wp_X11_itemOf x1 x2 x3 σ (fun r1 σ2 =>
 ((r1 ≥ 0) →
 wp_X9_valueOf r1 σ2 (fun r3 σ4 =>
 Q r3 σ4)) ∧
 (¬ (r1 ≥ 0) →
 Q ((-2)) σ2))
def wp_X11_rounds (σ : St) (Q : Int → St → Prop) : Prop :=
 wp_X9_roundsTaken σ (fun r1 σ2 =>
 Q r1 σ2)
def wp_X9_meetAll_b39 (Q : Int → St → Prop) (K2 : Int → St → Prop) (x1 : Int) (s0 : Int) (s1 : Int) (σ : St) : Prop :=
 (0 ≤ s1 ∧ s1 < 5) ∧ ∀ σ5 : St, σ5 = upS σ 53 s1.toNat (b_and s0 1) →
 ∀ v6 : Int, v6 = w32 (x1 + 1) →
 K2 v6 σ5
def wp_X9_meetAll_b34 (Q : Int → St → Prop) (K2 : Int → St → Prop) (x1 : Int) (s0 : Int) (σ : St) : Prop :=
 wp_X9_meetAll_b39 Q K2 x1 1 s0 σ
def wp_X9_meetAll_b117 (Q : Int → St → Prop) (K79 : Int → St → Prop) (x1 : Int) (σ : St) : Prop :=
 ∀ v8 : Int, v8 = w32 (x1 + 1) →
 K79 v8 σ
def wp_X9_meetAll_l79 (Q : Int → St → Prop) : Nat → Int → St → Prop
  | 0, _, _ => False
  | n + 1, x1, σ =>
    ((x1 ≥ σ 14 0) →
    Q 0 σ) ∧
    (¬ (x1 ≥ σ 14 0) →
    (0 ≤ x1 ∧ x1 < 40) ∧
    ((σ 20 (x1.toNat) ≠ 0) →
    wp_X9_meetAll_b117 Q (wp_X9_meetAll_l79 Q n) x1 σ) ∧
    (¬ (σ 20 (x1.toNat) ≠ 0) →
    (0 ≤ x1 ∧ x1 < 40) ∧
    (0 ≤ σ 19 (x1.toNat) ∧ σ 19 (x1.toNat) < 5) ∧ ∀ σ7 : St, σ7 = upS σ 53 (σ 19 (x1.toNat)).toNat (b_and 1 1) →
    wp_X9_meetAll_b117 Q (wp_X9_meetAll_l79 Q n) x1 σ7))
def wp_X9_meetAll_l48 (Q : Int → St → Prop) : Nat → Int → St → Prop
  | 0, _, _ => False
  | n + 1, x1, σ =>
    wp_X0_itemCount σ (fun r1 σ2 =>
    ((x1 ≥ r1) →
    wp_X9_meetAll_l79 Q bigN 0 σ2) ∧
    (¬ (x1 ≥ r1) →
    (0 ≤ x1 ∧ x1 < 432) ∧
    (0 ≤ σ2 51 (x1.toNat) ∧ σ2 51 (x1.toNat) < 5) ∧ ∀ σ3 : St, σ3 = upS σ2 53 (σ2 51 (x1.toNat)).toNat (b_and 1 1) →
    ∀ v4 : Int, v4 = w32 (x1 + 1) →
    (wp_X9_meetAll_l48 Q n) v4 σ3))
def wp_X9_meetAll_l2 (Q : Int → St → Prop) : Nat → Int → St → Prop
  | 0, _, _ => False
  | n + 1, x1, σ =>
    ((x1 ≥ 5) →
    wp_X9_meetAll_l48 Q bigN 0 σ) ∧
    (¬ (x1 ≥ 5) →
    ((x1 = σ 14 8) →
    wp_X9_meetAll_b34 Q (wp_X9_meetAll_l2 Q n) x1 x1 σ) ∧
    (¬ (x1 = σ 14 8) →
    ((x1 ≠ σ 14 9) →
    wp_X9_meetAll_b39 Q (wp_X9_meetAll_l2 Q n) x1 0 x1 σ) ∧
    (¬ (x1 ≠ σ 14 9) →
    wp_X9_meetAll_b34 Q (wp_X9_meetAll_l2 Q n) x1 x1 σ)))
def wp_X9_meetAll (σ : St) (Q : Int → St → Prop) : Prop :=
 wp_X9_meetAll_l2 Q bigN 0 σ
def wp_X9_keep (x0 : Int) (x1 : Int) (x2 : Int) (x3 : Int) (σ : St) (Q : Int → St → Prop) : Prop :=
 ((x2 ≠ x3) →
 Q (b_and x0 (b_xor (b_shl 1 x1) ((-1)))) σ) ∧
 (¬ (x2 ≠ x3) →
 Q x0 σ)
def wp_X9_lawsOfOne (x1 : Int) (σ : St) (Q : Int → St → Prop) : Prop :=
 ∀ v1 : Int, v1 = σ 14 8 →
 ∀ v2 : Int, v2 = σ 14 9 →
 wp_X4_plus x1 v1 σ (fun r3 σ4 =>
 wp_X9_keep 511 2 r3 x1 σ4 (fun r5 σ6 =>
 wp_X4_times v2 x1 σ6 (fun r7 σ8 =>
 wp_X9_keep r5 4 r7 x1 σ8 (fun r9 σ10 =>
 wp_X4_times x1 v2 σ10 (fun r11 σ12 =>
 wp_X9_keep r9 4 r11 x1 σ12 (fun r13 σ14 =>
 wp_X4_times v1 x1 σ14 (fun r15 σ16 =>
 wp_X9_keep r13 5 r15 v1 σ16 (fun r17 σ18 =>
 wp_X4_times x1 v1 σ18 (fun r19 σ20 =>
 wp_X9_keep r17 5 r19 v1 σ20 (fun r21 σ22 =>
 wp_X4_plus x1 x1 σ22 (fun r23 σ24 =>
 wp_X9_keep r21 8 r23 x1 σ24 (fun r25 σ26 =>
 Q r25 σ26))))))))))))
def wp_X9_lawsOfMore_b246 (Q : Int → St → Prop) (K29 : Int → Int → Int → Int → St → Prop) (x1 : Int) (x2 : Int) (x3 : Int) (x4 : Int) (σ : St) : Prop :=
 ∀ v51 : Int, v51 = w32 (x4 + 1) →
 K29 x1 x2 x3 v51 σ
def wp_X9_lawsOfMore_l29 (Q : Int → St → Prop) : Nat → Int → Int → Int → Int → St → Prop
  | 0, _, _, _, _, _ => False
  | n + 1, x1, x2, x3, x4, σ =>
    ((x4 ≥ σ 14 7) →
    Q x3 σ) ∧
    (¬ (x4 ≥ σ 14 7) →
    (0 ≤ x4 ∧ x4 < 5) ∧
    ((σ 53 (x4.toNat) = 0) →
    wp_X9_lawsOfMore_b246 Q (wp_X9_lawsOfMore_l29 Q n) x1 x2 x3 x4 σ) ∧
    (¬ (σ 53 (x4.toNat) = 0) →
    wp_X4_plus x1 x2 σ (fun r7 σ8 =>
    wp_X4_plus r7 x4 σ8 (fun r9 σ10 =>
    wp_X4_plus x2 x4 σ10 (fun r11 σ12 =>
    wp_X4_plus x1 r11 σ12 (fun r13 σ14 =>
    wp_X9_keep x3 1 r9 r13 σ14 (fun r15 σ16 =>
    wp_X4_times x1 x2 σ16 (fun r17 σ18 =>
    wp_X4_times r17 x4 σ18 (fun r19 σ20 =>
    wp_X4_times x2 x4 σ20 (fun r21 σ22 =>
    wp_X4_times x1 r21 σ22 (fun r23 σ24 =>
    wp_X9_keep r15 3 r19 r23 σ24 (fun r25 σ26 =>
    wp_X4_times x1 x2 σ26 (fun r27 σ28 =>
    wp_X4_times x1 x4 σ28 (fun r29 σ30 =>
    wp_X4_plus r27 r29 σ30 (fun r31 σ32 =>
    wp_X4_plus x2 x4 σ32 (fun r33 σ34 =>
    wp_X4_times x1 r33 σ34 (fun r35 σ36 =>
    wp_X9_keep r25 6 r35 r31 σ36 (fun r37 σ38 =>
    wp_X4_times x1 x4 σ38 (fun r39 σ40 =>
    wp_X4_times x2 x4 σ40 (fun r41 σ42 =>
    wp_X4_plus r39 r41 σ42 (fun r43 σ44 =>
    wp_X4_plus x1 x2 σ44 (fun r45 σ46 =>
    wp_X4_times r45 x4 σ46 (fun r47 σ48 =>
    wp_X9_keep r37 7 r47 r43 σ48 (fun r49 σ50 =>
    wp_X9_lawsOfMore_b246 Q (wp_X9_lawsOfMore_l29 Q n) x1 x2 r49 x4 σ50))))))))))))))))))))))))
def wp_X9_lawsOfMore (x1 : Int) (x2 : Int) (σ : St) (Q : Int → St → Prop) : Prop :=
 wp_X4_plus x1 x2 σ (fun r1 σ2 =>
 wp_X4_plus x2 x1 σ2 (fun r3 σ4 =>
 wp_X9_keep 511 0 r1 r3 σ4 (fun r5 σ6 =>
 wp_X9_lawsOfMore_l29 Q bigN x1 x2 r5 0 σ6)))
def wp_X9_lawsKept_b81 (Q : Int → St → Prop) (K22 : Int → Int → St → Prop) (K52 : Int → Int → Int → St → Prop) (x1 : Int) (x2 : Int) (x3 : Int) (σ : St) : Prop :=
 ∀ v12 : Int, v12 = w32 (x3 + 1) →
 K52 x1 x2 v12 σ
def wp_X9_lawsKept_b87 (Q : Int → St → Prop) (K22 : Int → Int → St → Prop) (x1 : Int) (x2 : Int) (σ : St) : Prop :=
 ∀ v8 : Int, v8 = w32 (x2 + 1) →
 K22 x1 v8 σ
def wp_X9_lawsKept_l52 (Q : Int → St → Prop) (K22 : Int → Int → St → Prop) : Nat → Int → Int → Int → St → Prop
  | 0, _, _, _, _ => False
  | n + 1, x1, x2, x3, σ =>
    ((x3 ≥ σ 14 7) →
    wp_X9_lawsKept_b87 Q K22 x1 x2 σ) ∧
    (¬ (x3 ≥ σ 14 7) →
    (0 ≤ x3 ∧ x3 < 5) ∧
    ((σ 53 (x3.toNat) = 0) →
    wp_X9_lawsKept_b81 Q K22 (wp_X9_lawsKept_l52 Q K22 n) x1 x2 x3 σ) ∧
    (¬ (σ 53 (x3.toNat) = 0) →
    wp_X9_lawsOfMore x2 x3 σ (fun r9 σ10 =>
    ∀ v11 : Int, v11 = b_and x1 r9 →
    wp_X9_lawsKept_b81 Q K22 (wp_X9_lawsKept_l52 Q K22 n) v11 x2 x3 σ10)))
def wp_X9_lawsKept_l22 (Q : Int → St → Prop) : Nat → Int → Int → St → Prop
  | 0, _, _, _ => False
  | n + 1, x1, x2, σ =>
    ((x2 ≥ σ 14 7) →
    Q x1 σ) ∧
    (¬ (x2 ≥ σ 14 7) →
    (0 ≤ x2 ∧ x2 < 5) ∧
    ((σ 53 (x2.toNat) = 0) →
    wp_X9_lawsKept_b87 Q (wp_X9_lawsKept_l22 Q n) x1 x2 σ) ∧
    (¬ (σ 53 (x2.toNat) = 0) →
    wp_X9_lawsOfOne x2 σ (fun r5 σ6 =>
    ∀ v7 : Int, v7 = b_and x1 r5 →
    wp_X9_lawsKept_l52 Q (wp_X9_lawsKept_l22 Q n) bigN v7 x2 0 σ6)))
def wp_X9_lawsKept (σ : St) (Q : Int → St → Prop) : Prop :=
 wp_X9_roundsTaken σ (fun r1 σ2 =>
 ((r1 ≠ (-6)) →
 wp_X9_meetAll σ2 (fun r3 σ4 =>
 wp_X9_lawsKept_l22 Q bigN 511 0 σ4)) ∧
 (¬ (r1 ≠ (-6)) →
 Q ((-6)) σ2))
def wp_X11_laws (σ : St) (Q : Int → St → Prop) : Prop :=
 wp_X9_lawsKept σ (fun r1 σ2 =>
 Q r1 σ2)
def wp_X1_fullCases_b38 (Q : Int → St → Prop) (K15 : Int → Int → Int → St → Prop) (x1 : Int) (x2 : Int) (x3 : Int) (σ : St) : Prop :=
 ∀ v10 : Int, v10 = w32 (x3 + 1) →
 K15 x1 x2 v10 σ
def wp_X1_fullCases_l15 (Q : Int → St → Prop) : Nat → Int → Int → Int → St → Prop
  | 0, _, _, _, _ => False
  | n + 1, x1, x2, x3, σ =>
    wp_X0_caseEnd x1 σ (fun r5 σ6 =>
    ((x3 ≥ r5) →
    Q x2 σ6) ∧
    (¬ (x3 ≥ r5) →
    wp_X1_isFull x3 σ6 (fun r7 σ8 =>
    ((r7 = 0) →
    wp_X1_fullCases_b38 Q (wp_X1_fullCases_l15 Q n) x1 x2 x3 σ8) ∧
    (¬ (r7 = 0) →
    ∀ v9 : Int, v9 = w32 (x2 + 1) →
    wp_X1_fullCases_b38 Q (wp_X1_fullCases_l15 Q n) x1 v9 x3 σ8))))
def wp_X1_fullCases (x1 : Int) (σ : St) (Q : Int → St → Prop) : Prop :=
 wp_X1_prepare σ (fun r1 σ2 =>
 wp_X0_caseStart x1 σ2 (fun r3 σ4 =>
 wp_X1_fullCases_l15 Q bigN x1 0 r3 σ4))
def wp_X1_casesAround_b56 (Q : Int → St → Prop) (K8 : Int → Int → Int → St → Prop) (x1 : Int) (x2 : Int) (x3 : Int) (σ : St) : Prop :=
 ∀ v6 : Int, v6 = w32 (x3 + 1) →
 K8 x1 x2 v6 σ
def wp_X1_casesAround_b45 (Q : Int → St → Prop) (K8 : Int → Int → Int → St → Prop) (x1 : Int) (x2 : Int) (x3 : Int) (σ : St) : Prop :=
 wp_X1_isFull x3 σ (fun r3 σ4 =>
 ((r3 = 0) →
 wp_X1_casesAround_b56 Q K8 x1 x2 x3 σ4) ∧
 (¬ (r3 = 0) →
 ∀ v5 : Int, v5 = w32 (x2 + 1) →
 wp_X1_casesAround_b56 Q K8 x1 v5 x3 σ4))
def wp_X1_casesAround_l8 (Q : Int → St → Prop) : Nat → Int → Int → Int → St → Prop
  | 0, _, _, _, _ => False
  | n + 1, x1, x2, x3, σ =>
    ((x3 ≥ σ 24 16) →
    Q x2 σ) ∧
    (¬ (x3 ≥ σ 24 16) →
    (0 ≤ x3 ∧ x3 < 3360) ∧
    ((σ 31 (x3.toNat) = x1) →
    wp_X1_casesAround_b45 Q (wp_X1_casesAround_l8 Q n) x1 x2 x3 σ) ∧
    (¬ (σ 31 (x3.toNat) = x1) →
    (0 ≤ x3 ∧ x3 < 3360) ∧
    ((σ 32 (x3.toNat) ≠ x1) →
    wp_X1_casesAround_b56 Q (wp_X1_casesAround_l8 Q n) x1 x2 x3 σ) ∧
    (¬ (σ 32 (x3.toNat) ≠ x1) →
    wp_X1_casesAround_b45 Q (wp_X1_casesAround_l8 Q n) x1 x2 x3 σ)))
def wp_X1_casesAround (x1 : Int) (σ : St) (Q : Int → St → Prop) : Prop :=
 wp_X1_prepare σ (fun r1 σ2 =>
 wp_X1_casesAround_l8 Q bigN x1 0 0 σ2)
def wp_X11_cases (x1 : Int) (x2 : Int) (x3 : Int) (x4 : Int) (σ : St) (Q : Int → St → Prop) : Prop :=
 wp_X11_itemOf x1 x2 x3 σ (fun r1 σ2 =>
 ((r1 ≥ 0) →
 (x4 = 0 →
 wp_X0_caseEnd r1 σ2 (fun r3 σ4 =>
 wp_X0_caseStart r1 σ4 (fun r5 σ6 =>
 Q (w32 (r3 - r5)) σ6))) ∧
 (x4 = 1 →
 wp_X1_fullCases r1 σ2 (fun r7 σ8 =>
 Q r7 σ8)) ∧
 (x4 = 2 →
 wp_X1_casesAround r1 σ2 (fun r9 σ10 =>
 Q r9 σ10)) ∧
 (¬ x4 = 0 ∧ ¬ x4 = 1 ∧ ¬ x4 = 2 →
 Q ((-2)) σ2)) ∧
 (¬ (r1 ≥ 0) →
 Q ((-2)) σ2))
def wp_X1_putInOrder_b62 (Q : Int → St → Prop) (K10 : Int → Int → Int → Int → St → Prop) (x1 : Int) (x2 : Int) (x3 : Int) (x4 : Int) (σ : St) : Prop :=
 ∀ v5 : Int, v5 = w32 (x4 + 1) →
 K10 x1 x2 x3 v5 σ
def wp_X1_putInOrder_l74 (Q : Int → St → Prop) : Nat → Int → Int → Int → St → Prop
  | 0, _, _, _, _ => False
  | n + 1, x1, x2, x4, σ =>
    ((x4 ≤ x2) →
    (0 ≤ x2 ∧ x2 < 432) ∧ ∀ σ6 : St, σ6 = upS σ 40 x2.toNat x1 →
    ∀ σ7 : St, σ7 = upS σ6 36 6 (w32 ((σ6 36 6) + 1)) →
    Q 0 σ7) ∧
    (¬ (x4 ≤ x2) →
    (0 ≤ w32 (x4 - 1) ∧ w32 (x4 - 1) < 432) ∧
    (0 ≤ x4 ∧ x4 < 432) ∧ ∀ σ8 : St, σ8 = upS σ 40 x4.toNat (σ 40 ((w32 (x4 - 1)).toNat)) →
    ∀ v9 : Int, v9 = w32 (x4 + (-1)) →
    (wp_X1_putInOrder_l74 Q n) x1 x2 v9 σ8)
def wp_X1_putInOrder_b68 (Q : Int → St → Prop) (x1 : Int) (x2 : Int) (σ : St) : Prop :=
 ∀ v4 : Int, v4 = σ 36 6 →
 wp_X1_putInOrder_l74 Q bigN x1 x2 v4 σ
def wp_X1_putInOrder_l10 (Q : Int → St → Prop) : Nat → Int → Int → Int → Int → St → Prop
  | 0, _, _, _, _, _ => False
  | n + 1, x1, x2, x3, x4, σ =>
    ((x4 ≥ 432) →
    wp_X1_putInOrder_b68 Q x1 x2 σ) ∧
    (¬ (x4 ≥ 432) →
    ((x2 ≥ x3) →
    wp_X1_putInOrder_b68 Q x1 x2 σ) ∧
    (¬ (x2 ≥ x3) →
    ∀ v2 : Int, v2 = b_div (w32 (x2 + x3)) 2 →
    (0 ≤ v2 ∧ v2 < 432) ∧
    (0 ≤ σ 40 (v2.toNat) ∧ σ 40 (v2.toNat) < 432) ∧
    (0 ≤ x1 ∧ x1 < 432) ∧
    ((σ 37 ((σ 40 (v2.toNat)).toNat) > σ 37 (x1.toNat)) →
    wp_X1_putInOrder_b62 Q (wp_X1_putInOrder_l10 Q n) x1 x2 v2 x4 σ) ∧
    (¬ (σ 37 ((σ 40 (v2.toNat)).toNat) > σ 37 (x1.toNat)) →
    ∀ v3 : Int, v3 = w32 (v2 + 1) →
    wp_X1_putInOrder_b62 Q (wp_X1_putInOrder_l10 Q n) x1 v3 x3 x4 σ)))
def wp_X1_putInOrder (x1 : Int) (σ : St) (Q : Int → St → Prop) : Prop :=
 ∀ v1 : Int, v1 = σ 36 6 →
 wp_X1_putInOrder_l10 Q bigN x1 0 v1 0 σ
def wp_X1_itemInOrder_b47 (Q : Int → St → Prop) (K23 : Int → Int → St → Prop) (x1 : Int) (x2 : Int) (σ : St) : Prop :=
 ∀ v11 : Int, v11 = w32 (x2 + 1) →
 K23 x1 v11 σ
def wp_X1_itemInOrder_b65 (Q : Int → St → Prop) (σ : St) : Prop :=
 Q ((-1)) σ
def wp_X1_itemInOrder_b53 (Q : Int → St → Prop) (x1 : Int) (σ : St) : Prop :=
 ((x1 < 0) →
 wp_X1_itemInOrder_b65 Q σ) ∧
 (¬ (x1 < 0) →
 ((x1 < σ 36 6) →
 (0 ≤ x1 ∧ x1 < 432) ∧
 Q (σ 40 (x1.toNat)) σ) ∧
 (¬ (x1 < σ 36 6) →
 wp_X1_itemInOrder_b65 Q σ))
def wp_X1_itemInOrder_l23 (Q : Int → St → Prop) : Nat → Int → Int → St → Prop
  | 0, _, _, _ => False
  | n + 1, x1, x2, σ =>
    wp_X0_itemCount σ (fun r5 σ6 =>
    ((x2 ≥ r5) →
    wp_X1_itemInOrder_b53 Q x1 σ6) ∧
    (¬ (x2 ≥ r5) →
    wp_X1_has x2 σ6 (fun r7 σ8 =>
    ((r7 = 0) →
    wp_X1_itemInOrder_b47 Q (wp_X1_itemInOrder_l23 Q n) x1 x2 σ8) ∧
    (¬ (r7 = 0) →
    wp_X1_putInOrder x2 σ8 (fun r9 σ10 =>
    wp_X1_itemInOrder_b47 Q (wp_X1_itemInOrder_l23 Q n) x1 x2 σ10)))))
def wp_X1_itemInOrder (x1 : Int) (σ : St) (Q : Int → St → Prop) : Prop :=
 wp_X1_prepare σ (fun r1 σ2 =>
 ((σ2 36 9 ≠ 0) →
 wp_X1_itemInOrder_b53 Q x1 σ2) ∧
 (¬ (σ2 36 9 ≠ 0) →
 ∀ σ3 : St, σ3 = upS σ2 36 9 1 →
 ∀ σ4 : St, σ4 = upS σ3 36 6 0 →
 wp_X1_itemInOrder_l23 Q bigN x1 0 σ4))
def wp_X0_beginOf (x1 : Int) (σ : St) (Q : Int → St → Prop) : Prop :=
 (0 ≤ b_div x1 12 ∧ b_div x1 12 < 36) ∧
 Q (σ 26 ((b_div x1 12).toNat)) σ
def wp_X0_finishOf (x1 : Int) (σ : St) (Q : Int → St → Prop) : Prop :=
 (0 ≤ b_div x1 12 ∧ b_div x1 12 < 36) ∧
 Q (σ 27 ((b_div x1 12).toNat)) σ
def wp_X11_settled (x1 : Int) (x2 : Int) (σ : St) (Q : Int → St → Prop) : Prop :=
 ((x1 < 0) →
 Q ((-2)) σ) ∧
 (¬ (x1 < 0) →
 ((x2 < 0) →
 Q ((-2)) σ) ∧
 (¬ (x2 < 0) →
 ((x2 ≤ 3) →
 wp_X1_itemInOrder x1 σ (fun r1 σ2 =>
 ((r1 ≥ 0) →
 (x2 = 0 →
 Q (b_rem r1 12) σ2) ∧
 (x2 = 1 →
 wp_X0_beginOf r1 σ2 (fun r3 σ4 =>
 Q r3 σ4)) ∧
 (x2 = 2 →
 wp_X0_finishOf r1 σ2 (fun r5 σ6 =>
 Q r5 σ6)) ∧
 (¬ x2 = 0 ∧ ¬ x2 = 1 ∧ ¬ x2 = 2 →
 wp_X1_lowestOf r1 σ2 (fun r7 σ8 =>
 Q r7 σ8))) ∧
 (¬ (r1 ≥ 0) →
 Q ((-1)) σ2))) ∧
 (¬ (x2 ≤ 3) →
 Q ((-2)) σ)))
def wp_X11_isPlace_b14 (Q : Int → St → Prop) (σ : St) : Prop :=
 Q 0 σ
def wp_X11_isPlace (x0 : Int) (σ : St) (Q : Int → St → Prop) : Prop :=
 ((x0 < 0) →
 wp_X11_isPlace_b14 Q σ) ∧
 (¬ (x0 < 0) →
 ((x0 ≥ 16) →
 wp_X11_isPlace_b14 Q σ) ∧
 (¬ (x0 ≥ 16) →
 Q 1 σ))
def wp_X0_isInside_b34 (Q : Int → St → Prop) (σ : St) : Prop :=
 Q 0 σ
def wp_X0_isInside (x1 : Int) (x2 : Int) (σ : St) (Q : Int → St → Prop) : Prop :=
 (0 ≤ x1 ∧ x1 < 36) ∧
 (0 ≤ x2 ∧ x2 < 36) ∧
 ((σ 26 (x1.toNat) < σ 26 (x2.toNat)) →
 wp_X0_isInside_b34 Q σ) ∧
 (¬ (σ 26 (x1.toNat) < σ 26 (x2.toNat)) →
 (0 ≤ x1 ∧ x1 < 36) ∧
 (0 ≤ x2 ∧ x2 < 36) ∧
 ((σ 27 (x1.toNat) > σ 27 (x2.toNat)) →
 wp_X0_isInside_b34 Q σ) ∧
 (¬ (σ 27 (x1.toNat) > σ 27 (x2.toNat)) →
 Q 1 σ))
def wp_X3_caseOfRule_l9 (Q : Int → St → Prop) : Nat → Int → Int → Int → St → Prop
  | 0, _, _, _, _ => False
  | n + 1, x1, x2, x3, σ =>
    wp_X0_caseEnd x1 σ (fun r3 σ4 =>
    ((x3 ≥ r3) →
    Q ((-1)) σ4) ∧
    (¬ (x3 ≥ r3) →
    (0 ≤ x3 ∧ x3 < 3360) ∧
    ((σ4 29 (x3.toNat) ≠ x2) →
    ∀ v5 : Int, v5 = w32 (x3 + 1) →
    (wp_X3_caseOfRule_l9 Q n) x1 x2 v5 σ4) ∧
    (¬ (σ4 29 (x3.toNat) ≠ x2) →
    Q x3 σ4)))
def wp_X3_caseOfRule (x1 : Int) (x2 : Int) (σ : St) (Q : Int → St → Prop) : Prop :=
 wp_X0_caseStart x1 σ (fun r1 σ2 =>
 wp_X3_caseOfRule_l9 Q bigN x1 x2 r1 σ2)
def wp_X3_isSmaller_b138 (Q : Int → St → Prop) (σ : St) : Prop :=
 Q 0 σ
def wp_X3_isSmaller_b95 (Q : Int → St → Prop) (x2 : Int) (x4 : Int) (x6 : Int) (σ : St) : Prop :=
 ((x6 < 0) →
 wp_X3_isSmaller_b138 Q σ) ∧
 (¬ (x6 < 0) →
 (0 ≤ w32 ((w32 (x6 * 16)) + (b_rem x2 16)) ∧ w32 ((w32 (x6 * 16)) + (b_rem x2 16)) < 6912) ∧
 (0 ≤ w32 ((w32 (x6 * 16)) + (b_rem x4 16)) ∧ w32 ((w32 (x6 * 16)) + (b_rem x4 16)) < 6912) ∧
 ((σ 58 ((w32 ((w32 (x6 * 16)) + (b_rem x2 16))).toNat) ≥ σ 58 ((w32 ((w32 (x6 * 16)) + (b_rem x4 16))).toNat)) →
 wp_X3_isSmaller_b138 Q σ) ∧
 (¬ (σ 58 ((w32 ((w32 (x6 * 16)) + (b_rem x2 16))).toNat) ≥ σ 58 ((w32 ((w32 (x6 * 16)) + (b_rem x4 16))).toNat)) →
 Q 1 σ))
def wp_X3_isSmaller (x1 : Int) (x2 : Int) (x3 : Int) (x4 : Int) (σ : St) (Q : Int → St → Prop) : Prop :=
 ((x1 = x3) →
 (0 ≤ x1 ∧ x1 < 3360) ∧
 ∀ v1 : Int, v1 = σ 31 (x1.toNat) →
 (0 ≤ x1 ∧ x1 < 3360) ∧
 ∀ v2 : Int, v2 = σ 32 (x1.toNat) →
 ((v1 < 0) →
 wp_X3_isSmaller_b95 Q x2 x4 v2 σ) ∧
 (¬ (v1 < 0) →
 ((b_div x2 16 = b_div x4 16) →
 wp_X3_isSmaller_b95 Q x2 x4 v2 σ) ∧
 (¬ (b_div x2 16 = b_div x4 16) →
 (0 ≤ w32 ((w32 (v1 * 16)) + (b_div x2 16)) ∧ w32 ((w32 (v1 * 16)) + (b_div x2 16)) < 6912) ∧
 (0 ≤ w32 ((w32 (v1 * 16)) + (b_div x4 16)) ∧ w32 ((w32 (v1 * 16)) + (b_div x4 16)) < 6912) ∧
 ((σ 58 ((w32 ((w32 (v1 * 16)) + (b_div x2 16))).toNat) ≥ σ 58 ((w32 ((w32 (v1 * 16)) + (b_div x4 16))).toNat)) →
 Q 0 σ) ∧
 (¬ (σ 58 ((w32 ((w32 (v1 * 16)) + (b_div x2 16))).toNat) ≥ σ 58 ((w32 ((w32 (v1 * 16)) + (b_div x4 16))).toNat)) →
 Q 1 σ)))) ∧
 (¬ (x1 = x3) →
 ((x1 ≥ x3) →
 Q 0 σ) ∧
 (¬ (x1 ≥ x3) →
 Q 1 σ))
def wp_X3_putInBase_l129 (Q : Int → St → Prop) : Nat → Int → Int → Int → Int → Int → Int → Int → Int → St → Prop
  | 0, _, _, _, _, _, _, _, _, _ => False
  | n + 1, x1, x2, x3, x4, x5, x6, x7, x8, σ =>
    ((x8 ≤ x6) →
    (0 ≤ x6 ∧ x6 < 192) ∧ ∀ σ8 : St, σ8 = upS σ 61 x6.toNat x2 →
    (0 ≤ x6 ∧ x6 < 192) ∧ ∀ σ9 : St, σ9 = upS σ8 62 x6.toNat x3 →
    (0 ≤ x6 ∧ x6 < 192) ∧ ∀ σ10 : St, σ10 = upS σ9 63 x6.toNat x4 →
    (0 ≤ x1 ∧ x1 < 12) ∧ ∀ σ11 : St, σ11 = upS σ10 64 x1.toNat (w32 ((w32 (x7 - x5)) + 1)) →
    Q 1 σ11) ∧
    (¬ (x8 ≤ x6) →
    (0 ≤ w32 (x8 - 1) ∧ w32 (x8 - 1) < 192) ∧
    (0 ≤ x8 ∧ x8 < 192) ∧ ∀ σ12 : St, σ12 = upS σ 61 x8.toNat (σ 61 ((w32 (x8 - 1)).toNat)) →
    (0 ≤ w32 (x8 - 1) ∧ w32 (x8 - 1) < 192) ∧
    (0 ≤ x8 ∧ x8 < 192) ∧ ∀ σ13 : St, σ13 = upS σ12 62 x8.toNat (σ12 62 ((w32 (x8 - 1)).toNat)) →
    (0 ≤ w32 (x8 - 1) ∧ w32 (x8 - 1) < 192) ∧
    (0 ≤ x8 ∧ x8 < 192) ∧ ∀ σ14 : St, σ14 = upS σ13 63 x8.toNat (σ13 63 ((w32 (x8 - 1)).toNat)) →
    ∀ v15 : Int, v15 = w32 (x8 + (-1)) →
    (wp_X3_putInBase_l129 Q n) x1 x2 x3 x4 x5 x6 x7 v15 σ14)
def wp_X3_putInBase_b97 (Q : Int → St → Prop) (x1 : Int) (x2 : Int) (x3 : Int) (x4 : Int) (x5 : Int) (x6 : Int) (σ : St) : Prop :=
 ((x6 < w32 (x5 + 16)) →
 (0 ≤ x1 ∧ x1 < 12) ∧
 ∀ v7 : Int, v7 = w32 (x5 + (min (σ 64 (x1.toNat)) 15)) →
 wp_X3_putInBase_l129 Q bigN x1 x2 x3 x4 x5 x6 v7 v7 σ) ∧
 (¬ (x6 < w32 (x5 + 16)) →
 Q 0 σ)
def wp_X3_putInBase_l43 (Q : Int → St → Prop) : Nat → Int → Int → Int → Int → Int → Int → St → Prop
  | 0, _, _, _, _, _, _, _ => False
  | n + 1, x1, x2, x3, x4, x5, x6, σ =>
    ((x6 ≤ x5) →
    wp_X3_putInBase_b97 Q x1 x2 x3 x4 x5 x6 σ) ∧
    (¬ (x6 ≤ x5) →
    (0 ≤ w32 (x6 - 1) ∧ w32 (x6 - 1) < 192) ∧
    ((σ 61 ((w32 (x6 - 1)).toNat) ≠ x2) →
    wp_X3_putInBase_b97 Q x1 x2 x3 x4 x5 x6 σ) ∧
    (¬ (σ 61 ((w32 (x6 - 1)).toNat) ≠ x2) →
    (0 ≤ w32 (x6 - 1) ∧ w32 (x6 - 1) < 192) ∧
    (0 ≤ w32 (x6 - 1) ∧ w32 (x6 - 1) < 192) ∧
    wp_X3_isSmaller x3 x4 (σ 62 ((w32 (x6 - 1)).toNat)) (σ 63 ((w32 (x6 - 1)).toNat)) σ (fun r4 σ5 =>
    ((r4 = 0) →
    wp_X3_putInBase_b97 Q x1 x2 x3 x4 x5 x6 σ5) ∧
    (¬ (r4 = 0) →
    ∀ v6 : Int, v6 = w32 (x6 + (-1)) →
    (wp_X3_putInBase_l43 Q n) x1 x2 x3 x4 x5 v6 σ5))))
def wp_X3_putInBase_l17 (Q : Int → St → Prop) : Nat → Int → Int → Int → Int → Int → Int → St → Prop
  | 0, _, _, _, _, _, _, _ => False
  | n + 1, x1, x2, x3, x4, x5, x6, σ =>
    ((x6 ≤ x5) →
    wp_X3_putInBase_l43 Q bigN x1 x2 x3 x4 x5 x6 σ) ∧
    (¬ (x6 ≤ x5) →
    (0 ≤ w32 (x6 - 1) ∧ w32 (x6 - 1) < 192) ∧
    ((σ 61 ((w32 (x6 - 1)).toNat) ≤ x2) →
    wp_X3_putInBase_l43 Q bigN x1 x2 x3 x4 x5 x6 σ) ∧
    (¬ (σ 61 ((w32 (x6 - 1)).toNat) ≤ x2) →
    ∀ v3 : Int, v3 = w32 (x6 + (-1)) →
    (wp_X3_putInBase_l17 Q n) x1 x2 x3 x4 x5 v3 σ))
def wp_X3_putInBase (x1 : Int) (x2 : Int) (x3 : Int) (x4 : Int) (σ : St) (Q : Int → St → Prop) : Prop :=
 ∀ v1 : Int, v1 = w32 (x1 * 16) →
 (0 ≤ x1 ∧ x1 < 12) ∧
 ∀ v2 : Int, v2 = w32 (v1 + (σ 64 (x1.toNat))) →
 wp_X3_putInBase_l17 Q bigN x1 x2 x3 x4 v1 v2 σ
def wp_X3_gatherPairs_b179 (Q : Int → St → Prop) (K77 : Int → Int → Int → Int → Int → Int → Int → Int → St → Prop) (x1 : Int) (x2 : Int) (x3 : Int) (x4 : Int) (x5 : Int) (x6 : Int) (x7 : Int) (x8 : Int) (σ : St) : Prop :=
 ∀ v4 : Int, v4 = w32 (x8 + 1) →
 K77 x1 x2 x3 x4 x5 x6 x7 v4 σ
def wp_X3_gatherPairs_b146 (Q : Int → St → Prop) (K77 : Int → Int → Int → Int → Int → Int → Int → Int → St → Prop) (K113 : Int → Int → Int → Int → Int → Int → Int → Int → Int → Int → St → Prop) (x1 : Int) (x2 : Int) (x3 : Int) (x4 : Int) (x5 : Int) (x6 : Int) (x7 : Int) (x8 : Int) (x9 : Int) (x10 : Int) (s0 : Int) (σ : St) : Prop :=
 wp_X3_putInBase x2 s0 x1 (w32 ((w32 (x8 * 16)) + x10)) σ (fun r5 σ6 =>
 ((r5 ≠ 0) →
 ∀ v7 : Int, v7 = w32 (x10 + 1) →
 K113 x1 x2 x3 x4 x5 x6 x7 x8 x9 v7 σ6) ∧
 (¬ (r5 ≠ 0) →
 ((x10 ≠ 0) →
 wp_X3_gatherPairs_b179 Q K77 x1 x2 x3 x4 x5 x6 x7 x8 σ6) ∧
 (¬ (x10 ≠ 0) →
 Q 0 σ6)))
def wp_X3_gatherPairs_l113 (Q : Int → St → Prop) (K77 : Int → Int → Int → Int → Int → Int → Int → Int → St → Prop) : Nat → Int → Int → Int → Int → Int → Int → Int → Int → Int → Int → St → Prop
  | 0, _, _, _, _, _, _, _, _, _, _, _ => False
  | n + 1, x1, x2, x3, x4, x5, x6, x7, x8, x9, x10, σ =>
    ((x10 ≥ x6) →
    wp_X3_gatherPairs_b179 Q K77 x1 x2 x3 x4 x5 x6 x7 x8 σ) ∧
    (¬ (x10 ≥ x6) →
    ((x4 ≥ 0) →
    (0 ≤ w32 ((w32 (x4 * 16)) + x10) ∧ w32 ((w32 (x4 * 16)) + x10) < 6912) ∧
    wp_X3_gatherPairs_b146 Q K77 (wp_X3_gatherPairs_l113 Q K77 n) x1 x2 x3 x4 x5 x6 x7 x8 x9 x10 (w32 (x9 + (σ 55 ((w32 ((w32 (x4 * 16)) + x10)).toNat)))) σ) ∧
    (¬ (x4 ≥ 0) →
    wp_X3_gatherPairs_b146 Q K77 (wp_X3_gatherPairs_l113 Q K77 n) x1 x2 x3 x4 x5 x6 x7 x8 x9 x10 x9 σ))
def wp_X3_gatherPairs_b108 (Q : Int → St → Prop) (K77 : Int → Int → Int → Int → Int → Int → Int → Int → St → Prop) (x1 : Int) (x2 : Int) (x3 : Int) (x4 : Int) (x5 : Int) (x6 : Int) (x7 : Int) (x8 : Int) (s0 : Int) (σ : St) : Prop :=
 wp_X3_gatherPairs_l113 Q K77 bigN x1 x2 x3 x4 x5 x6 x7 x8 s0 0 σ
def wp_X3_gatherPairs_l77 (Q : Int → St → Prop) : Nat → Int → Int → Int → Int → Int → Int → Int → Int → St → Prop
  | 0, _, _, _, _, _, _, _, _, _ => False
  | n + 1, x1, x2, x3, x4, x5, x6, x7, x8, σ =>
    ((x8 ≥ x5) →
    Q 0 σ) ∧
    (¬ (x8 ≥ x5) →
    ((x3 ≥ 0) →
    (0 ≤ w32 ((w32 (x3 * 16)) + x8) ∧ w32 ((w32 (x3 * 16)) + x8) < 6912) ∧
    wp_X3_gatherPairs_b108 Q (wp_X3_gatherPairs_l77 Q n) x1 x2 x3 x4 x5 x6 x7 x8 (w32 (x7 + (σ 55 ((w32 ((w32 (x3 * 16)) + x8)).toNat)))) σ) ∧
    (¬ (x3 ≥ 0) →
    wp_X3_gatherPairs_b108 Q (wp_X3_gatherPairs_l77 Q n) x1 x2 x3 x4 x5 x6 x7 x8 x7 σ))
def wp_X3_gatherPairs_b53 (Q : Int → St → Prop) (x1 : Int) (x2 : Int) (x3 : Int) (x4 : Int) (x5 : Int) (s0 : Int) (σ : St) : Prop :=
 (0 ≤ x1 ∧ x1 < 3360) ∧
 (0 ≤ σ 29 (x1.toNat) ∧ σ 29 (x1.toNat) < 40) ∧
 ∀ v3 : Int, v3 = σ 18 ((σ 29 (x1.toNat)).toNat) →
 wp_X3_gatherPairs_l77 Q bigN x1 x2 x3 x4 x5 s0 v3 0 σ
def wp_X3_gatherPairs_b35 (Q : Int → St → Prop) (x1 : Int) (x2 : Int) (x3 : Int) (x4 : Int) (s0 : Int) (σ : St) : Prop :=
 ((x4 ≥ 0) →
 (0 ≤ x4 ∧ x4 < 432) ∧
 wp_X3_gatherPairs_b53 Q x1 x2 x3 x4 s0 (σ 59 (x4.toNat)) σ) ∧
 (¬ (x4 ≥ 0) →
 wp_X3_gatherPairs_b53 Q x1 x2 x3 x4 s0 1 σ)
def wp_X3_gatherPairs (x1 : Int) (x2 : Int) (σ : St) (Q : Int → St → Prop) : Prop :=
 (0 ≤ x1 ∧ x1 < 3360) ∧
 ∀ v1 : Int, v1 = σ 31 (x1.toNat) →
 (0 ≤ x1 ∧ x1 < 3360) ∧
 ∀ v2 : Int, v2 = σ 32 (x1.toNat) →
 ((v1 ≥ 0) →
 (0 ≤ v1 ∧ v1 < 432) ∧
 wp_X3_gatherPairs_b35 Q x1 x2 v1 v2 (σ 59 (v1.toNat)) σ) ∧
 (¬ (v1 ≥ 0) →
 wp_X3_gatherPairs_b35 Q x1 x2 v1 v2 1 σ)
def wp_X3_gatherBase_b49 (Q : Int → St → Prop) (K9 : Int → Int → Int → St → Prop) (x1 : Int) (x2 : Int) (x3 : Int) (σ : St) : Prop :=
 ∀ v11 : Int, v11 = w32 (x3 + 1) →
 K9 x1 x2 v11 σ
def wp_X3_gatherBase_l9 (Q : Int → St → Prop) : Nat → Int → Int → Int → St → Prop
  | 0, _, _, _, _ => False
  | n + 1, x1, x2, x3, σ =>
    wp_X0_caseEnd x1 σ (fun r3 σ4 =>
    ((x3 ≥ r3) →
    Q 0 σ4) ∧
    (¬ (x3 ≥ r3) →
    wp_X0_goesOn x3 σ4 (fun r5 σ6 =>
    ((r5 ≠ 0) →
    wp_X3_gatherBase_b49 Q (wp_X3_gatherBase_l9 Q n) x1 x2 x3 σ6) ∧
    (¬ (r5 ≠ 0) →
    wp_X1_isFull x3 σ6 (fun r7 σ8 =>
    ((r7 = 0) →
    wp_X3_gatherBase_b49 Q (wp_X3_gatherBase_l9 Q n) x1 x2 x3 σ8) ∧
    (¬ (r7 = 0) →
    wp_X3_gatherPairs x3 x2 σ8 (fun r9 σ10 =>
    wp_X3_gatherBase_b49 Q (wp_X3_gatherBase_l9 Q n) x1 x2 x3 σ10)))))))
def wp_X3_gatherBase (x1 : Int) (x2 : Int) (σ : St) (Q : Int → St → Prop) : Prop :=
 wp_X0_caseStart x1 σ (fun r1 σ2 =>
 wp_X3_gatherBase_l9 Q bigN x1 x2 r1 σ2)
def wp_X3_append_b58 (Q : Int → St → Prop) (K24 : Int → Int → Int → Int → Int → Int → Int → Int → St → Prop) (x1 : Int) (x2 : Int) (x3 : Int) (x4 : Int) (x5 : Int) (x6 : Int) (x7 : Int) (x8 : Int) (σ : St) : Prop :=
 ∀ v12 : Int, v12 = w32 (x8 + 1) →
 K24 x1 x2 x3 x4 x5 x6 x7 v12 σ
def wp_X3_append_b98 (Q : Int → St → Prop) (K68 : Int → Int → Int → Int → Int → Int → Int → St → Prop) (x1 : Int) (x2 : Int) (x3 : Int) (x4 : Int) (x6 : Int) (x7 : Int) (x8 : Int) (σ : St) : Prop :=
 ∀ v13 : Int, v13 = w32 (x8 + 1) →
 K68 x1 x2 x3 x4 x6 x7 v13 σ
def wp_X3_append_l68 (Q : Int → St → Prop) : Nat → Int → Int → Int → Int → Int → Int → Int → St → Prop
  | 0, _, _, _, _, _, _, _, _ => False
  | n + 1, x1, x2, x3, x4, x6, x7, x8, σ =>
    ((x8 ≥ x6) →
    (0 ≤ x6 ∧ x6 < 6912) ∧ ∀ σ6 : St, σ6 = upS σ 55 x6.toNat x2 →
    (0 ≤ x6 ∧ x6 < 6912) ∧ ∀ σ7 : St, σ7 = upS σ6 56 x6.toNat x3 →
    (0 ≤ x6 ∧ x6 < 6912) ∧ ∀ σ8 : St, σ8 = upS σ7 57 x6.toNat x4 →
    (0 ≤ x6 ∧ x6 < 6912) ∧ ∀ σ9 : St, σ9 = upS σ8 58 x6.toNat x7 →
    (0 ≤ x1 ∧ x1 < 432) ∧
    (0 ≤ x1 ∧ x1 < 432) ∧ ∀ σ10 : St, σ10 = upS σ9 59 x1.toNat (w32 ((σ9 59 (x1.toNat)) + 1)) →
    Q 0 σ10) ∧
    (¬ (x8 ≥ x6) →
    (0 ≤ x8 ∧ x8 < 6912) ∧
    ((σ 58 (x8.toNat) < x7) →
    wp_X3_append_b98 Q (wp_X3_append_l68 Q n) x1 x2 x3 x4 x6 x7 x8 σ) ∧
    (¬ (σ 58 (x8.toNat) < x7) →
    (0 ≤ x8 ∧ x8 < 6912) ∧
    (0 ≤ x8 ∧ x8 < 6912) ∧ ∀ σ11 : St, σ11 = upS σ 58 x8.toNat (w32 ((σ 58 (x8.toNat)) + 1)) →
    wp_X3_append_b98 Q (wp_X3_append_l68 Q n) x1 x2 x3 x4 x6 x7 x8 σ11))
def wp_X3_append_l24 (Q : Int → St → Prop) : Nat → Int → Int → Int → Int → Int → Int → Int → Int → St → Prop
  | 0, _, _, _, _, _, _, _, _, _ => False
  | n + 1, x1, x2, x3, x4, x5, x6, x7, x8, σ =>
    ((x8 ≥ x6) →
    wp_X3_append_l68 Q bigN x1 x2 x3 x4 x6 x7 x5 σ) ∧
    (¬ (x8 ≥ x6) →
    (0 ≤ x8 ∧ x8 < 6912) ∧
    (0 ≤ x8 ∧ x8 < 6912) ∧
    wp_X3_isSmaller (σ 56 (x8.toNat)) (σ 57 (x8.toNat)) x3 x4 σ (fun r3 σ4 =>
    ((r3 = 0) →
    wp_X3_append_b58 Q (wp_X3_append_l24 Q n) x1 x2 x3 x4 x5 x6 x7 x8 σ4) ∧
    (¬ (r3 = 0) →
    ∀ v5 : Int, v5 = w32 (x7 + 1) →
    wp_X3_append_b58 Q (wp_X3_append_l24 Q n) x1 x2 x3 x4 x5 x6 v5 x8 σ4)))
def wp_X3_append (x1 : Int) (x2 : Int) (x3 : Int) (x4 : Int) (σ : St) (Q : Int → St → Prop) : Prop :=
 ∀ v1 : Int, v1 = w32 (x1 * 16) →
 (0 ≤ x1 ∧ x1 < 432) ∧
 ∀ v2 : Int, v2 = w32 (v1 + (σ 59 (x1.toNat))) →
 wp_X3_append_l24 Q bigN x1 x2 x3 x4 v1 v2 0 v1 σ
def wp_X3_takeOfBase (x1 : Int) (x2 : Int) (σ : St) (Q : Int → St → Prop) : Prop :=
 (0 ≤ x2 ∧ x2 < 12) ∧
 ∀ v1 : Int, v1 = w32 ((w32 (x2 * 16)) + (σ 65 (x2.toNat))) →
 (0 ≤ v1 ∧ v1 < 192) ∧
 (0 ≤ v1 ∧ v1 < 192) ∧
 (0 ≤ v1 ∧ v1 < 192) ∧
 wp_X3_append x1 (σ 61 (v1.toNat)) (σ 62 (v1.toNat)) (σ 63 (v1.toNat)) σ (fun r2 σ3 =>
 (0 ≤ x2 ∧ x2 < 12) ∧
 (0 ≤ x2 ∧ x2 < 12) ∧ ∀ σ4 : St, σ4 = upS σ3 65 x2.toNat (w32 ((σ3 65 (x2.toNat)) + 1)) →
 Q 0 σ4)
def wp_X3_takeAllOfBase_l2 (Q : Int → St → Prop) : Nat → Int → Int → Int → St → Prop
  | 0, _, _, _, _ => False
  | n + 1, x1, x2, x3, σ =>
    ((x3 ≥ 16) →
    Q 0 σ) ∧
    (¬ (x3 ≥ 16) →
    (0 ≤ x2 ∧ x2 < 12) ∧
    (0 ≤ x2 ∧ x2 < 12) ∧
    ((σ 65 (x2.toNat) ≥ σ 64 (x2.toNat)) →
    Q 0 σ) ∧
    (¬ (σ 65 (x2.toNat) ≥ σ 64 (x2.toNat)) →
    wp_X3_takeOfBase x1 x2 σ (fun r1 σ2 =>
    ∀ v3 : Int, v3 = w32 (x3 + 1) →
    (wp_X3_takeAllOfBase_l2 Q n) x1 x2 v3 σ2)))
def wp_X3_takeAllOfBase (x1 : Int) (x2 : Int) (σ : St) (Q : Int → St → Prop) : Prop :=
 wp_X3_takeAllOfBase_l2 Q bigN x1 x2 0 σ
def wp_X3_findHead_b231 (Q : Int → St → Prop) (K62 : Int → Int → Int → Int → St → Prop) (x1 : Int) (x2 : Int) (x3 : Int) (x4 : Int) (σ : St) : Prop :=
 ∀ v9 : Int, v9 = w32 (x4 + 1) →
 K62 x1 x2 x3 v9 σ
def wp_X3_findHead_b211 (Q : Int → St → Prop) (K62 : Int → Int → Int → Int → St → Prop) (x1 : Int) (x2 : Int) (x4 : Int) (x7 : Int) (σ : St) : Prop :=
 ∀ σ10 : St, σ10 = upS σ 54 16 x7 →
 ∀ σ11 : St, σ11 = upS σ10 54 17 x4 →
 (0 ≤ x4 ∧ x4 < 40) ∧
 ∀ v12 : Int, v12 = σ11 66 (x4.toNat) →
 wp_X3_findHead_b231 Q K62 x1 x2 v12 x4 σ11
def wp_X3_findHead_b187 (Q : Int → St → Prop) (K62 : Int → Int → Int → Int → St → Prop) (x1 : Int) (x2 : Int) (x3 : Int) (x4 : Int) (x7 : Int) (s0 : Int) (σ : St) : Prop :=
 ((σ 54 16 = (-1)) →
 wp_X3_findHead_b211 Q K62 x1 x2 x4 x7 σ) ∧
 (¬ (σ 54 16 = (-1)) →
 ((x7 < σ 54 16) →
 wp_X3_findHead_b211 Q K62 x1 x2 x4 x7 σ) ∧
 (¬ (x7 < σ 54 16) →
 ((s0 = 0) →
 wp_X3_findHead_b231 Q K62 x1 x2 x3 x4 σ) ∧
 (¬ (s0 = 0) →
 wp_X3_findHead_b211 Q K62 x1 x2 x4 x7 σ)))
def wp_X3_findHead_b186 (Q : Int → St → Prop) (K62 : Int → Int → Int → Int → St → Prop) (x1 : Int) (x2 : Int) (x3 : Int) (x4 : Int) (x7 : Int) (σ : St) : Prop :=
 wp_X3_findHead_b187 Q K62 x1 x2 x3 x4 x7 0 σ
def wp_X3_findHead_l62 (Q : Int → St → Prop) : Nat → Int → Int → Int → Int → St → Prop
  | 0, _, _, _, _, _ => False
  | n + 1, x1, x2, x3, x4, σ =>
    ((x4 ≥ σ 24 12) →
    Q 0 σ) ∧
    (¬ (x4 ≥ σ 24 12) →
    (0 ≤ x4 ∧ x4 < 40) ∧
    ∀ v6 : Int, v6 = σ 33 (x4.toNat) →
    (0 ≤ v6 ∧ v6 < 40) ∧
    ∀ v7 : Int, v7 = w32 (x1 + (σ 16 (v6.toNat))) →
    (0 ≤ v6 ∧ v6 < 40) ∧
    ((σ 15 (v6.toNat) ≠ x2) →
    wp_X3_findHead_b231 Q (wp_X3_findHead_l62 Q n) x1 x2 x3 x4 σ) ∧
    (¬ (σ 15 (v6.toNat) ≠ x2) →
    (0 ≤ x4 ∧ x4 < 40) ∧
    (0 ≤ v7 ∧ v7 < 432) ∧
    ((σ 67 (x4.toNat) ≥ σ 59 (v7.toNat)) →
    wp_X3_findHead_b231 Q (wp_X3_findHead_l62 Q n) x1 x2 x3 x4 σ) ∧
    (¬ (σ 67 (x4.toNat) ≥ σ 59 (v7.toNat)) →
    (0 ≤ v6 ∧ v6 < 40) ∧
    (0 ≤ x4 ∧ x4 < 40) ∧
    (0 ≤ w32 ((w32 (v7 * 16)) + (σ 67 (x4.toNat))) ∧ w32 ((w32 (v7 * 16)) + (σ 67 (x4.toNat))) < 6912) ∧
    ∀ v8 : Int, v8 = w32 ((σ 18 (v6.toNat)) + (σ 55 ((w32 ((w32 (v7 * 16)) + (σ 67 (x4.toNat)))).toNat))) →
    ((v8 ≠ σ 54 16) →
    wp_X3_findHead_b186 Q (wp_X3_findHead_l62 Q n) x1 x2 x3 x4 v8 σ) ∧
    (¬ (v8 ≠ σ 54 16) →
    (0 ≤ x4 ∧ x4 < 40) ∧
    ((σ 66 (x4.toNat) ≥ x3) →
    wp_X3_findHead_b186 Q (wp_X3_findHead_l62 Q n) x1 x2 x3 x4 v8 σ) ∧
    (¬ (σ 66 (x4.toNat) ≥ x3) →
    wp_X3_findHead_b187 Q (wp_X3_findHead_l62 Q n) x1 x2 x3 x4 v8 1 σ)))))
def wp_X3_findHead_b59 (Q : Int → St → Prop) (x1 : Int) (x2 : Int) (x3 : Int) (σ : St) : Prop :=
 wp_X3_findHead_l62 Q bigN x1 x2 x3 0 σ
def wp_X3_findHead (x1 : Int) (x2 : Int) (σ : St) (Q : Int → St → Prop) : Prop :=
 ∀ σ1 : St, σ1 = upS σ 54 16 ((-1)) →
 ∀ σ2 : St, σ2 = upS σ1 54 17 ((-1)) →
 (0 ≤ x2 ∧ x2 < 12) ∧
 (0 ≤ x2 ∧ x2 < 12) ∧
 ((σ2 65 (x2.toNat) ≥ σ2 64 (x2.toNat)) →
 wp_X3_findHead_b59 Q x1 x2 ((-1)) σ2) ∧
 (¬ (σ2 65 (x2.toNat) ≥ σ2 64 (x2.toNat)) →
 (0 ≤ x2 ∧ x2 < 12) ∧
 ∀ v3 : Int, v3 = w32 ((w32 (x2 * 16)) + (σ2 65 (x2.toNat))) →
 (0 ≤ v3 ∧ v3 < 192) ∧
 ∀ σ4 : St, σ4 = upS σ2 54 16 (σ2 61 (v3.toNat)) →
 (0 ≤ v3 ∧ v3 < 192) ∧
 ∀ v5 : Int, v5 = σ4 62 (v3.toNat) →
 wp_X3_findHead_b59 Q x1 x2 v5 σ4)
def wp_X3_takeLeast_b87 (Q : Int → St → Prop) (K11 : Int → Int → Int → Int → Int → Int → St → Prop) (x1 : Int) (x2 : Int) (x3 : Int) (x4 : Int) (x5 : Int) (x6 : Int) (σ : St) : Prop :=
 ∀ v8 : Int, v8 = w32 (x6 + 1) →
 K11 x1 x2 x3 x4 x5 v8 σ
def wp_X3_takeLeast_b72 (Q : Int → St → Prop) (K11 : Int → Int → Int → Int → Int → Int → St → Prop) (x1 : Int) (x2 : Int) (x6 : Int) (σ : St) : Prop :=
 ∀ v9 : Int, v9 = σ 54 17 →
 ∀ v10 : Int, v10 = σ 54 16 →
 wp_X3_takeLeast_b87 Q K11 x1 x2 x6 v9 v10 x6 σ
def wp_X3_takeLeast_l11 (Q : Int → St → Prop) : Nat → Int → Int → Int → Int → Int → Int → St → Prop
  | 0, _, _, _, _, _, _, _ => False
  | n + 1, x1, x2, x3, x4, x5, x6, σ =>
    ((x6 ≥ 12) →
    ((x3 ≠ (-1)) →
    ((x4 ≠ (-1)) →
    (0 ≤ x4 ∧ x4 < 40) ∧
    (0 ≤ x4 ∧ x4 < 40) ∧
    wp_X3_append (w32 (x1 + x3)) x5 (σ 66 (x4.toNat)) (w32 ((σ 67 (x4.toNat)) * 16)) σ (fun r1 σ2 =>
    (0 ≤ x4 ∧ x4 < 40) ∧
    (0 ≤ x4 ∧ x4 < 40) ∧ ∀ σ3 : St, σ3 = upS σ2 67 x4.toNat (w32 ((σ2 67 (x4.toNat)) + 1)) →
    Q 1 σ3)) ∧
    (¬ (x4 ≠ (-1)) →
    wp_X3_takeOfBase (w32 (x1 + x3)) x3 σ (fun r4 σ5 =>
    Q 1 σ5))) ∧
    (¬ (x3 ≠ (-1)) →
    Q 0 σ)) ∧
    (¬ (x6 ≥ 12) →
    ((b_and (b_shr x2 x6) 1 ≠ 1) →
    wp_X3_takeLeast_b87 Q (wp_X3_takeLeast_l11 Q n) x1 x2 x3 x4 x5 x6 σ) ∧
    (¬ (b_and (b_shr x2 x6) 1 ≠ 1) →
    (0 ≤ w32 (x1 + x6) ∧ w32 (x1 + x6) < 432) ∧
    ((σ 59 ((w32 (x1 + x6)).toNat) ≥ 16) →
    wp_X3_takeLeast_b87 Q (wp_X3_takeLeast_l11 Q n) x1 x2 x3 x4 x5 x6 σ) ∧
    (¬ (σ 59 ((w32 (x1 + x6)).toNat) ≥ 16) →
    wp_X3_findHead x1 x6 σ (fun r6 σ7 =>
    ((σ7 54 16 = (-1)) →
    wp_X3_takeLeast_b87 Q (wp_X3_takeLeast_l11 Q n) x1 x2 x3 x4 x5 x6 σ7) ∧
    (¬ (σ7 54 16 = (-1)) →
    ((x5 = (-1)) →
    wp_X3_takeLeast_b72 Q (wp_X3_takeLeast_l11 Q n) x1 x2 x6 σ7) ∧
    (¬ (x5 = (-1)) →
    ((σ7 54 16 ≥ x5) →
    wp_X3_takeLeast_b87 Q (wp_X3_takeLeast_l11 Q n) x1 x2 x3 x4 x5 x6 σ7) ∧
    (¬ (σ7 54 16 ≥ x5) →
    wp_X3_takeLeast_b72 Q (wp_X3_takeLeast_l11 Q n) x1 x2 x6 σ7)))))))
def wp_X3_takeLeast (x1 : Int) (x2 : Int) (σ : St) (Q : Int → St → Prop) : Prop :=
 wp_X3_takeLeast_l11 Q bigN x1 x2 ((-1)) ((-1)) ((-1)) 0 σ
def wp_X3_growSpan_b153 (Q : Int → St → Prop) (K91 : Int → Int → Int → St → Prop) (x2 : Int) (x3 : Int) (x4 : Int) (σ : St) : Prop :=
 ∀ v16 : Int, v16 = w32 (x4 + 1) →
 K91 x2 x3 v16 σ
def wp_X3_growSpan_l173 (Q : Int → St → Prop) : Nat → Int → Int → Int → Int → St → Prop
  | 0, _, _, _, _, _ => False
  | n + 1, x2, x3, x4, x5, σ =>
    ((x5 ≥ 192) →
    Q 0 σ) ∧
    (¬ (x5 ≥ 192) →
    ((x4 = 0) →
    Q 0 σ) ∧
    (¬ (x4 = 0) →
    wp_X3_takeLeast x2 x3 σ (fun r17 σ18 =>
    ∀ v19 : Int, v19 = w32 (x5 + 1) →
    (wp_X3_growSpan_l173 Q n) x2 x3 r17 v19 σ18)))
def wp_X3_growSpan_b168 (Q : Int → St → Prop) (x2 : Int) (x3 : Int) (s0 : Int) (σ : St) : Prop :=
 wp_X3_growSpan_l173 Q bigN x2 x3 s0 0 σ
def wp_X3_growSpan_l91 (Q : Int → St → Prop) : Nat → Int → Int → Int → St → Prop
  | 0, _, _, _, _ => False
  | n + 1, x2, x3, x4, σ =>
    ((x4 ≥ 12) →
    ((x3 = 0) →
    wp_X3_growSpan_b168 Q x2 x3 0 σ) ∧
    (¬ (x3 = 0) →
    wp_X3_growSpan_b168 Q x2 x3 1 σ)) ∧
    (¬ (x4 ≥ 12) →
    (0 ≤ w32 (x2 + x4) ∧ w32 (x2 + x4) < 432) ∧ ∀ σ9 : St, σ9 = upS σ 59 (w32 (x2 + x4)).toNat 0 →
    (0 ≤ x4 ∧ x4 < 12) ∧ ∀ σ10 : St, σ10 = upS σ9 64 x4.toNat 0 →
    (0 ≤ x4 ∧ x4 < 12) ∧ ∀ σ11 : St, σ11 = upS σ10 65 x4.toNat 0 →
    wp_X3_gatherBase (w32 (x2 + x4)) x4 σ11 (fun r12 σ13 =>
    ((b_and (b_shr x3 x4) 1 ≠ 0) →
    wp_X3_growSpan_b153 Q (wp_X3_growSpan_l91 Q n) x2 x3 x4 σ13) ∧
    (¬ (b_and (b_shr x3 x4) 1 ≠ 0) →
    wp_X3_takeAllOfBase (w32 (x2 + x4)) x4 σ13 (fun r14 σ15 =>
    wp_X3_growSpan_b153 Q (wp_X3_growSpan_l91 Q n) x2 x3 x4 σ15))))
def wp_X3_growSpan_l10 (Q : Int → St → Prop) : Nat → Int → Int → Int → St → Prop
  | 0, _, _, _, _ => False
  | n + 1, x2, x3, x4, σ =>
    ((x4 ≥ σ 24 12) →
    wp_X3_growSpan_l91 Q bigN x2 x3 0 σ) ∧
    (¬ (x4 ≥ σ 24 12) →
    (0 ≤ x4 ∧ x4 < 40) ∧
    ∀ v2 : Int, v2 = σ 33 (x4.toNat) →
    (0 ≤ x4 ∧ x4 < 40) ∧ ∀ σ3 : St, σ3 = upS σ 67 x4.toNat 0 →
    (0 ≤ v2 ∧ v2 < 40) ∧
    wp_X3_caseOfRule (w32 (x2 + (σ3 15 (v2.toNat)))) v2 σ3 (fun r4 σ5 =>
    (0 ≤ x4 ∧ x4 < 40) ∧ ∀ σ6 : St, σ6 = upS σ5 66 x4.toNat r4 →
    (0 ≤ v2 ∧ v2 < 40) ∧
    ∀ v7 : Int, v7 = b_or x3 (b_shl 1 (σ6 15 (v2.toNat))) →
    ∀ v8 : Int, v8 = w32 (x4 + 1) →
    (wp_X3_growSpan_l10 Q n) x2 v7 v8 σ6))
def wp_X3_growSpan (x1 : Int) (σ : St) (Q : Int → St → Prop) : Prop :=
 ∀ v1 : Int, v1 = w32 (x1 * 12) →
 wp_X3_growSpan_l10 Q bigN v1 0 0 σ
def wp_X3_treeOf_b58 (Q : Int → St → Prop) (K15 : Int → Int → Int → Int → St → Prop) (x1 : Int) (x2 : Int) (x3 : Int) (x4 : Int) (σ : St) : Prop :=
 ∀ v9 : Int, v9 = w32 (x4 + 1) →
 K15 x1 x2 x3 v9 σ
def wp_X3_treeOf_b78 (Q : Int → St → Prop) (σ : St) : Prop :=
 Q ((-1)) σ
def wp_X3_treeOf_l15 (Q : Int → St → Prop) : Nat → Int → Int → Int → Int → St → Prop
  | 0, _, _, _, _, _ => False
  | n + 1, x1, x2, x3, x4, σ =>
    ((x4 > x3) →
    ((x2 < 0) →
    wp_X3_treeOf_b78 Q σ) ∧
    (¬ (x2 < 0) →
    (0 ≤ x1 ∧ x1 < 432) ∧
    ((x2 < σ 59 (x1.toNat)) →
    Q (w32 ((w32 (x1 * 16)) + x2)) σ) ∧
    (¬ (x2 < σ 59 (x1.toNat)) →
    wp_X3_treeOf_b78 Q σ))) ∧
    (¬ (x4 > x3) →
    (0 ≤ x4 ∧ x4 < 36) ∧
    ((σ 60 (x4.toNat) ≠ 0) →
    wp_X3_treeOf_b58 Q (wp_X3_treeOf_l15 Q n) x1 x2 x3 x4 σ) ∧
    (¬ (σ 60 (x4.toNat) ≠ 0) →
    wp_X0_isInside x4 x3 σ (fun r4 σ5 =>
    ((r4 = 0) →
    wp_X3_treeOf_b58 Q (wp_X3_treeOf_l15 Q n) x1 x2 x3 x4 σ5) ∧
    (¬ (r4 = 0) →
    (0 ≤ x4 ∧ x4 < 36) ∧ ∀ σ6 : St, σ6 = upS σ5 60 x4.toNat (b_and 1 1) →
    wp_X3_growSpan x4 σ6 (fun r7 σ8 =>
    wp_X3_treeOf_b58 Q (wp_X3_treeOf_l15 Q n) x1 x2 x3 x4 σ8)))))
def wp_X3_treeOf (x1 : Int) (x2 : Int) (σ : St) (Q : Int → St → Prop) : Prop :=
 wp_X1_prepare σ (fun r1 σ2 =>
 ∀ v3 : Int, v3 = b_div x1 12 →
 wp_X3_treeOf_l15 Q bigN x1 x2 v3 0 σ2)
def wp_X11_best (x1 : Int) (x2 : Int) (x3 : Int) (x4 : Int) (σ : St) (Q : Int → St → Prop) : Prop :=
 wp_X11_itemOf x1 x2 x3 σ (fun r1 σ2 =>
 ((r1 < 0) →
 Q ((-2)) σ2) ∧
 (¬ (r1 < 0) →
 wp_X11_isPlace x4 σ2 (fun r3 σ4 =>
 ((r3 ≠ 0) →
 wp_X3_treeOf r1 x4 σ4 (fun r5 σ6 =>
 ((r5 ≥ 0) →
 (0 ≤ r5 ∧ r5 < 6912) ∧
 Q (σ6 55 (r5.toNat)) σ6) ∧
 (¬ (r5 ≥ 0) →
 Q ((-1)) σ6))) ∧
 (¬ (r3 ≠ 0) →
 Q ((-2)) σ4))))
def wp_X10_push (x1 : Int) (x2 : Int) (σ : St) (Q : Int → St → Prop) : Prop :=
 ((σ 68 6 ≥ 2560) →
 Q 0 σ) ∧
 (¬ (σ 68 6 ≥ 2560) →
 (0 ≤ σ 68 6 ∧ σ 68 6 < 2560) ∧ ∀ σ1 : St, σ1 = upS σ 69 (σ 68 6).toNat x1 →
 (0 ≤ σ1 68 6 ∧ σ1 68 6 < 2560) ∧ ∀ σ2 : St, σ2 = upS σ1 70 (σ1 68 6).toNat x2 →
 ∀ σ3 : St, σ3 = upS σ2 68 6 (w32 ((σ2 68 6) + 1)) →
 Q 0 σ3)
def wp_X3_rightTree (x1 : Int) (σ : St) (Q : Int → St → Prop) : Prop :=
 (0 ≤ x1 ∧ x1 < 6912) ∧
 (0 ≤ σ 56 (x1.toNat) ∧ σ 56 (x1.toNat) < 3360) ∧
 ∀ v1 : Int, v1 = σ 32 ((σ 56 (x1.toNat)).toNat) →
 ((v1 ≥ 0) →
 (0 ≤ x1 ∧ x1 < 6912) ∧
 Q (w32 ((w32 (v1 * 16)) + (b_rem (σ 57 (x1.toNat)) 16))) σ) ∧
 (¬ (v1 ≥ 0) →
 Q ((-1)) σ)
def wp_X10_pushTree (x1 : Int) (x2 : Int) (σ : St) (Q : Int → St → Prop) : Prop :=
 ((x1 < 0) →
 Q 0 σ) ∧
 (¬ (x1 < 0) →
 wp_X10_push x1 x2 σ (fun r1 σ2 =>
 Q 0 σ2))
def wp_X3_leftTree (x1 : Int) (σ : St) (Q : Int → St → Prop) : Prop :=
 (0 ≤ x1 ∧ x1 < 6912) ∧
 (0 ≤ σ 56 (x1.toNat) ∧ σ 56 (x1.toNat) < 3360) ∧
 ∀ v1 : Int, v1 = σ 31 ((σ 56 (x1.toNat)).toNat) →
 ((v1 ≥ 0) →
 (0 ≤ x1 ∧ x1 < 6912) ∧
 Q (w32 ((w32 (v1 * 16)) + (b_div (σ 57 (x1.toNat)) 16))) σ) ∧
 (¬ (v1 ≥ 0) →
 Q ((-1)) σ)
def wp_X10_follow_l23 (Q : Int → St → Prop) : Nat → Int → St → Prop
  | 0, _, _ => False
  | n + 1, x2, σ =>
    ((x2 ≥ 512) →
    Q 0 σ) ∧
    (¬ (x2 ≥ 512) →
    ((σ 68 6 ≤ 0) →
    Q 0 σ) ∧
    (¬ (σ 68 6 ≤ 0) →
    ∀ σ6 : St, σ6 = upS σ 68 6 (w32 ((σ 68 6) - 1)) →
    (0 ≤ σ6 68 6 ∧ σ6 68 6 < 2560) ∧
    ∀ v7 : Int, v7 = σ6 69 ((σ6 68 6).toNat) →
    (0 ≤ σ6 68 6 ∧ σ6 68 6 < 2560) ∧
    ∀ v8 : Int, v8 = σ6 70 ((σ6 68 6).toNat) →
    (0 ≤ σ6 68 7 ∧ σ6 68 7 < 512) ∧ ∀ σ9 : St, σ9 = upS σ6 71 (σ6 68 7).toNat v7 →
    ∀ σ10 : St, σ10 = upS σ9 68 7 (w32 ((σ9 68 7) + 1)) →
    ∀ σ11 : St, σ11 = upS σ10 68 8 (max (σ10 68 8) v8) →
    wp_X3_rightTree v7 σ11 (fun r12 σ13 =>
    wp_X10_pushTree r12 (w32 (v8 + 1)) σ13 (fun r14 σ15 =>
    wp_X3_leftTree v7 σ15 (fun r16 σ17 =>
    wp_X10_pushTree r16 (w32 (v8 + 1)) σ17 (fun r18 σ19 =>
    ∀ v20 : Int, v20 = w32 (x2 + 1) →
    (wp_X10_follow_l23 Q n) v20 σ19))))))
def wp_X10_follow (x1 : Int) (σ : St) (Q : Int → St → Prop) : Prop :=
 ∀ σ1 : St, σ1 = upS σ 68 7 0 →
 ∀ σ2 : St, σ2 = upS σ1 68 8 0 →
 ∀ σ3 : St, σ3 = upS σ2 68 6 0 →
 wp_X10_push x1 1 σ3 (fun r4 σ5 =>
 wp_X10_follow_l23 Q bigN 0 σ5)
def wp_X11_size (x1 : Int) (x2 : Int) (x3 : Int) (x4 : Int) (x5 : Int) (σ : St) (Q : Int → St → Prop) : Prop :=
 wp_X11_itemOf x1 x2 x3 σ (fun r1 σ2 =>
 ((r1 < 0) →
 Q ((-2)) σ2) ∧
 (¬ (r1 < 0) →
 wp_X11_isPlace x4 σ2 (fun r3 σ4 =>
 ((r3 = 0) →
 Q ((-2)) σ4) ∧
 (¬ (r3 = 0) →
 ((x5 < 0) →
 Q ((-2)) σ4) ∧
 (¬ (x5 < 0) →
 ((x5 ≤ 1) →
 wp_X3_treeOf r1 x4 σ4 (fun r5 σ6 =>
 ((r5 ≥ 0) →
 wp_X10_follow r5 σ6 (fun r7 σ8 =>
 ((x5 ≠ 0) →
 Q (σ8 68 8) σ8) ∧
 (¬ (x5 ≠ 0) →
 Q (σ8 68 7) σ8))) ∧
 (¬ (r5 ≥ 0) →
 Q ((-1)) σ6))) ∧
 (¬ (x5 ≤ 1) →
 Q ((-2)) σ4))))))
def wp_X10_caseAt (x1 : Int) (σ : St) (Q : Int → St → Prop) : Prop :=
 (0 ≤ x1 ∧ x1 < 512) ∧
 (0 ≤ σ 71 (x1.toNat) ∧ σ 71 (x1.toNat) < 6912) ∧
 Q (σ 56 ((σ 71 (x1.toNat)).toNat)) σ
def wp_X10_ruleOf_b12 (Q : Int → St → Prop) (σ : St) : Prop :=
 Q ((-1)) σ
def wp_X10_ruleOf (x1 : Int) (σ : St) (Q : Int → St → Prop) : Prop :=
 ((x1 < 0) →
 wp_X10_ruleOf_b12 Q σ) ∧
 (¬ (x1 < 0) →
 ((x1 < σ 68 7) →
 wp_X10_caseAt x1 σ (fun r1 σ2 =>
 (0 ≤ r1 ∧ r1 < 3360) ∧
 Q (σ2 29 (r1.toNat)) σ2)) ∧
 (¬ (x1 < σ 68 7) →
 wp_X10_ruleOf_b12 Q σ))
def wp_X11_step (x1 : Int) (x2 : Int) (x3 : Int) (x4 : Int) (x5 : Int) (σ : St) (Q : Int → St → Prop) : Prop :=
 wp_X11_itemOf x1 x2 x3 σ (fun r1 σ2 =>
 ((r1 < 0) →
 Q ((-2)) σ2) ∧
 (¬ (r1 < 0) →
 wp_X11_isPlace x4 σ2 (fun r3 σ4 =>
 ((r3 = 0) →
 Q ((-2)) σ4) ∧
 (¬ (r3 = 0) →
 ((x5 ≥ 0) →
 wp_X3_treeOf r1 x4 σ4 (fun r5 σ6 =>
 ((r5 ≥ 0) →
 wp_X10_follow r5 σ6 (fun r7 σ8 =>
 wp_X10_ruleOf x5 σ8 (fun r9 σ10 =>
 Q r9 σ10))) ∧
 (¬ (r5 ≥ 0) →
 Q ((-1)) σ6))) ∧
 (¬ (x5 ≥ 0) →
 Q ((-2)) σ4)))))
def wp_X11_wholeItem (σ : St) (Q : Int → St → Prop) : Prop :=
 ((σ 14 0 ≠ 0) →
 wp_X4_start σ (fun r1 σ2 =>
 wp_X11_itemOf r1 0 (σ2 24 2) σ2 (fun r3 σ4 =>
 Q r3 σ4))) ∧
 (¬ (σ 14 0 ≠ 0) →
 Q ((-1)) σ)
def wp_X10_beginOf_b12 (Q : Int → St → Prop) (σ : St) : Prop :=
 Q ((-1)) σ
def wp_X10_beginOf (x1 : Int) (σ : St) (Q : Int → St → Prop) : Prop :=
 ((x1 < 0) →
 wp_X10_beginOf_b12 Q σ) ∧
 (¬ (x1 < 0) →
 ((x1 < σ 68 7) →
 (0 ≤ x1 ∧ x1 < 512) ∧
 wp_X0_beginOf (b_div (σ 71 (x1.toNat)) 16) σ (fun r1 σ2 =>
 Q r1 σ2)) ∧
 (¬ (x1 < σ 68 7) →
 wp_X10_beginOf_b12 Q σ))
def wp_X10_middleOf_b12 (Q : Int → St → Prop) (σ : St) : Prop :=
 Q ((-1)) σ
def wp_X10_middleOf (x1 : Int) (σ : St) (Q : Int → St → Prop) : Prop :=
 ((x1 < 0) →
 wp_X10_middleOf_b12 Q σ) ∧
 (¬ (x1 < 0) →
 ((x1 < σ 68 7) →
 wp_X10_caseAt x1 σ (fun r1 σ2 =>
 (0 ≤ r1 ∧ r1 < 3360) ∧
 Q (σ2 30 (r1.toNat)) σ2)) ∧
 (¬ (x1 < σ 68 7) →
 wp_X10_middleOf_b12 Q σ))
def wp_X10_finishOf_b12 (Q : Int → St → Prop) (σ : St) : Prop :=
 Q ((-1)) σ
def wp_X10_finishOf (x1 : Int) (σ : St) (Q : Int → St → Prop) : Prop :=
 ((x1 < 0) →
 wp_X10_finishOf_b12 Q σ) ∧
 (¬ (x1 < 0) →
 ((x1 < σ 68 7) →
 (0 ≤ x1 ∧ x1 < 512) ∧
 wp_X0_finishOf (b_div (σ 71 (x1.toNat)) 16) σ (fun r1 σ2 =>
 Q r1 σ2)) ∧
 (¬ (x1 < σ 68 7) →
 wp_X10_finishOf_b12 Q σ))
def wp_X11_bounds_b48 (Q : Int → St → Prop) (x2 : Int) (x3 : Int) (s0 : Int) (σ : St) : Prop :=
 ((s0 ≥ 0) →
 wp_X10_follow s0 σ (fun r7 σ8 =>
 ((x2 < σ8 68 7) →
 (x3 = 0 →
 wp_X10_beginOf x2 σ8 (fun r9 σ10 =>
 Q r9 σ10)) ∧
 (x3 = 1 →
 wp_X10_middleOf x2 σ8 (fun r11 σ12 =>
 Q r11 σ12)) ∧
 (¬ x3 = 0 ∧ ¬ x3 = 1 →
 wp_X10_finishOf x2 σ8 (fun r13 σ14 =>
 Q r13 σ14))) ∧
 (¬ (x2 < σ8 68 7) →
 Q ((-1)) σ8))) ∧
 (¬ (s0 ≥ 0) →
 Q ((-1)) σ)
def wp_X11_bounds (x1 : Int) (x2 : Int) (x3 : Int) (σ : St) (Q : Int → St → Prop) : Prop :=
 wp_X11_isPlace x1 σ (fun r1 σ2 =>
 ((r1 = 0) →
 Q ((-2)) σ2) ∧
 (¬ (r1 = 0) →
 ((x2 < 0) →
 Q ((-2)) σ2) ∧
 (¬ (x2 < 0) →
 ((x3 < 0) →
 Q ((-2)) σ2) ∧
 (¬ (x3 < 0) →
 ((x3 ≤ 2) →
 wp_X11_wholeItem σ2 (fun r3 σ4 =>
 ((r3 ≥ 0) →
 wp_X3_treeOf r3 x1 σ4 (fun r5 σ6 =>
 wp_X11_bounds_b48 Q x2 x3 r5 σ6)) ∧
 (¬ (r3 ≥ 0) →
 wp_X11_bounds_b48 Q x2 x3 ((-1)) σ4))) ∧
 (¬ (x3 ≤ 2) →
 Q ((-2)) σ2)))))
def wp_X10_put_c2 (x2 : Int) (σ : St) (Q : Int → St → Prop) : Prop :=
 ((σ 68 9 ≥ 2048) →
 Q 0 σ) ∧
 (¬ (σ 68 9 ≥ 2048) →
 (0 ≤ σ 68 9 ∧ σ 68 9 < 2048) ∧ ∀ σ1 : St, σ1 = upS σ 2 (σ 68 9).toNat x2 →
 ∀ σ2 : St, σ2 = upS σ1 68 9 (w32 ((σ1 68 9) + 1)) →
 Q 0 σ2)
def wp_X10_pushPart_b17 (Q : Int → St → Prop) (s0 : Int) (σ : St) : Prop :=
 wp_X10_push s0 0 σ (fun r1 σ2 =>
 wp_X10_push ((-32)) 0 σ2 (fun r3 σ4 =>
 Q 0 σ4))
def wp_X10_pushPart (x1 : Int) (x2 : Int) (σ : St) (Q : Int → St → Prop) : Prop :=
 ((x1 < 0) →
 wp_X10_pushPart_b17 Q (w32 (-(w32 ((w32 (97 + x2)) - 100)))) σ) ∧
 (¬ (x1 < 0) →
 wp_X10_pushPart_b17 Q x1 σ)
def wp_X10_open_c2_b83 (Q : Int → St → Prop) (x2 : Int) (x3 : Int) (σ : St) : Prop :=
 wp_X3_leftTree x2 σ (fun r12 σ13 =>
 (0 ≤ x3 ∧ x3 < 40) ∧
 wp_X10_pushPart r12 (σ13 16 (x3.toNat)) σ13 (fun r14 σ15 =>
 Q 0 σ15))
def wp_X10_open_c2 (x2 : Int) (σ : St) (Q : Int → St → Prop) : Prop :=
 (0 ≤ x2 ∧ x2 < 6912) ∧
 (0 ≤ σ 56 (x2.toNat) ∧ σ 56 (x2.toNat) < 3360) ∧
 ∀ v1 : Int, v1 = σ 29 ((σ 56 (x2.toNat)).toNat) →
 wp_X10_put_c2 40 σ (fun r2 σ3 =>
 (0 ≤ v1 ∧ v1 < 40) ∧
 wp_X10_put_c2 (w32 (65 + (σ3 15 (v1.toNat)))) σ3 (fun r4 σ5 =>
 wp_X10_push ((-41)) 0 σ5 (fun r6 σ7 =>
 (0 ≤ v1 ∧ v1 < 40) ∧
 ((σ7 17 (v1.toNat) = (-1)) →
 wp_X10_open_c2_b83 Q x2 v1 σ7) ∧
 (¬ (σ7 17 (v1.toNat) = (-1)) →
 wp_X3_rightTree x2 σ7 (fun r8 σ9 =>
 (0 ≤ v1 ∧ v1 < 40) ∧
 wp_X10_pushPart r8 (σ9 17 (v1.toNat)) σ9 (fun r10 σ11 =>
 wp_X10_open_c2_b83 Q x2 v1 σ11))))))
def wp_X10_write_c2_b76 (Q : Int → St → Prop) (K18 : Int → St → Prop) (x3 : Int) (σ : St) : Prop :=
 ∀ v11 : Int, v11 = w32 (x3 + 1) →
 K18 v11 σ
def wp_X10_write_c2_l18 (Q : Int → St → Prop) : Nat → Int → St → Prop
  | 0, _, _ => False
  | n + 1, x3, σ =>
    ((x3 ≥ 2560) →
    Q (σ 68 9) σ) ∧
    (¬ (x3 ≥ 2560) →
    ((σ 68 6 ≤ 0) →
    Q (σ 68 9) σ) ∧
    (¬ (σ 68 6 ≤ 0) →
    ∀ σ5 : St, σ5 = upS σ 68 6 (w32 ((σ 68 6) - 1)) →
    (0 ≤ σ5 68 6 ∧ σ5 68 6 < 2560) ∧
    ∀ v6 : Int, v6 = σ5 69 ((σ5 68 6).toNat) →
    ((v6 ≥ 0) →
    wp_X10_open_c2 v6 σ5 (fun r7 σ8 =>
    wp_X10_write_c2_b76 Q (wp_X10_write_c2_l18 Q n) x3 σ8)) ∧
    (¬ (v6 ≥ 0) →
    wp_X10_put_c2 (w32 (-v6)) σ5 (fun r9 σ10 =>
    wp_X10_write_c2_b76 Q (wp_X10_write_c2_l18 Q n) x3 σ10))))
def wp_X10_write_c2 (x1 : Int) (σ : St) (Q : Int → St → Prop) : Prop :=
 ∀ σ1 : St, σ1 = upS σ 68 9 0 →
 ∀ σ2 : St, σ2 = upS σ1 68 6 0 →
 wp_X10_push x1 0 σ2 (fun r3 σ4 =>
 wp_X10_write_c2_l18 Q bigN 0 σ4)
def wp_X11_tell (x1 : Int) (x2 : Int) (x3 : Int) (x4 : Int) (σ : St) (Q : Int → St → Prop) : Prop :=
 wp_X11_itemOf x1 x2 x3 σ (fun r1 σ2 =>
 ((r1 < 0) →
 Q ((-2)) σ2) ∧
 (¬ (r1 < 0) →
 wp_X11_isPlace x4 σ2 (fun r3 σ4 =>
 ((r3 ≠ 0) →
 wp_X3_treeOf r1 x4 σ4 (fun r5 σ6 =>
 ((r5 ≥ 0) →
 wp_X10_write_c2 r5 σ6 (fun r7 σ8 =>
 ∀ σ9 : St, σ9 = upS σ8 0 3 r7 →
 Q (σ9 0 3) σ9)) ∧
 (¬ (r5 ≥ 0) →
 Q ((-1)) σ6))) ∧
 (¬ (r3 ≠ 0) →
 Q ((-2)) σ4))))
def wp_X11_octet_b12 (Q : Int → St → Prop) (σ : St) : Prop :=
 Q ((-1)) σ
def wp_X11_octet (x1 : Int) (σ : St) (Q : Int → St → Prop) : Prop :=
 ((x1 < 0) →
 wp_X11_octet_b12 Q σ) ∧
 (¬ (x1 < 0) →
 ((x1 < σ 0 3) →
 (0 ≤ x1 ∧ x1 < 2048) ∧
 Q (σ 2 (x1.toNat)) σ) ∧
 (¬ (x1 < σ 0 3) →
 wp_X11_octet_b12 Q σ))
def wp_X8_countPairs_b107 (Q : Int → St → Prop) (K51 : Int → Int → Int → Int → Int → Int → St → Prop) (x1 : Int) (x2 : Int) (x3 : Int) (x5 : Int) (x6 : Int) (x8 : Int) (σ : St) : Prop :=
 ∀ v8 : Int, v8 = w32 (x8 + 1) →
 K51 x1 x2 x3 x5 x6 v8 σ
def wp_X8_countPairs_l51 (Q : Int → St → Prop) : Nat → Int → Int → Int → Int → Int → Int → St → Prop
  | 0, _, _, _, _, _, _, _ => False
  | n + 1, x1, x2, x3, x5, x6, x8, σ =>
    ((x8 > x5) →
    Q x6 σ) ∧
    (¬ (x8 > x5) →
    (0 ≤ w32 ((w32 (x1 * 301)) + x8) ∧ w32 ((w32 (x1 * 301)) + x8) < 130032) ∧
    ∀ v3 : Int, v3 = σ 83 ((w32 ((w32 (x1 * 301)) + x8)).toNat) →
    ((v3 = 0) →
    wp_X8_countPairs_b107 Q (wp_X8_countPairs_l51 Q n) x1 x2 x3 x5 x6 x8 σ) ∧
    (¬ (v3 = 0) →
    (0 ≤ w32 ((w32 ((w32 (x2 * 301)) + x3)) - x8) ∧ w32 ((w32 ((w32 (x2 * 301)) + x3)) - x8) < 130032) ∧
    wp_X8_multiply v3 (σ 83 ((w32 ((w32 ((w32 (x2 * 301)) + x3)) - x8)).toNat)) σ (fun r4 σ5 =>
    wp_X8_add x6 r4 σ5 (fun r6 σ7 =>
    wp_X8_countPairs_b107 Q (wp_X8_countPairs_l51 Q n) x1 x2 x3 x5 r6 x8 σ7))))
def wp_X8_countPairs (x1 : Int) (x2 : Int) (x3 : Int) (σ : St) (Q : Int → St → Prop) : Prop :=
 (0 ≤ x1 ∧ x1 < 432) ∧
 (0 ≤ x2 ∧ x2 < 432) ∧
 ∀ v1 : Int, v1 = max (σ 37 (x1.toNat)) (w32 (x3 - (σ 78 (x2.toNat)))) →
 (0 ≤ x1 ∧ x1 < 432) ∧
 (0 ≤ x2 ∧ x2 < 432) ∧
 ∀ v2 : Int, v2 = min (σ 78 (x1.toNat)) (w32 (x3 - (σ 37 (x2.toNat)))) →
 wp_X8_countPairs_l51 Q bigN x1 x2 x3 v2 0 v1 σ
def wp_X8_countCase_b49 (Q : Int → St → Prop) (x2 : Int) (x3 : Int) (x4 : Int) (σ : St) : Prop :=
 (0 ≤ w32 ((w32 ((max x3 x4) * 301)) + x2) ∧ w32 ((w32 ((max x3 x4) * 301)) + x2) < 130032) ∧
 Q (σ 83 ((w32 ((w32 ((max x3 x4) * 301)) + x2)).toNat)) σ
def wp_X8_countCase_b40 (Q : Int → St → Prop) (x2 : Int) (x3 : Int) (x4 : Int) (σ : St) : Prop :=
 ((x3 < 0) →
 wp_X8_countCase_b49 Q x2 x3 x4 σ) ∧
 (¬ (x3 < 0) →
 ((x4 ≥ 0) →
 wp_X8_countPairs x3 x4 x2 σ (fun r3 σ4 =>
 Q r3 σ4)) ∧
 (¬ (x4 ≥ 0) →
 wp_X8_countCase_b49 Q x2 x3 x4 σ))
def wp_X8_countCase (x1 : Int) (x2 : Int) (σ : St) (Q : Int → St → Prop) : Prop :=
 (0 ≤ x1 ∧ x1 < 3360) ∧
 ∀ v1 : Int, v1 = σ 31 (x1.toNat) →
 (0 ≤ x1 ∧ x1 < 3360) ∧
 ∀ v2 : Int, v2 = σ 32 (x1.toNat) →
 ((v1 ≥ 0) →
 wp_X8_countCase_b40 Q x2 v1 v2 σ) ∧
 (¬ (v1 ≥ 0) →
 ((v2 ≥ 0) →
 wp_X8_countCase_b40 Q x2 v1 v2 σ) ∧
 (¬ (v2 ≥ 0) →
 ((x2 ≠ 0) →
 Q 0 σ) ∧
 (¬ (x2 ≠ 0) →
 Q 1 σ)))
def wp_X8_countItem_b116 (Q : Int → St → Prop) (K51 : Int → Int → Int → Int → St → Prop) (x1 : Int) (x2 : Int) (x3 : Int) (x5 : Int) (σ : St) : Prop :=
 ∀ v14 : Int, v14 = w32 (x5 + 1) →
 K51 x1 x2 x3 v14 σ
def wp_X8_countItem_l51 (Q : Int → St → Prop) : Nat → Int → Int → Int → Int → St → Prop
  | 0, _, _, _, _, _ => False
  | n + 1, x1, x2, x3, x5, σ =>
    wp_X0_caseEnd x1 σ (fun r5 σ6 =>
    ((x5 ≥ r5) →
    Q x3 σ6) ∧
    (¬ (x5 ≥ r5) →
    (0 ≤ x5 ∧ x5 < 3360) ∧
    (0 ≤ σ6 29 (x5.toNat) ∧ σ6 29 (x5.toNat) < 40) ∧
    ∀ v7 : Int, v7 = w32 (x2 - (σ6 18 ((σ6 29 (x5.toNat)).toNat))) →
    ((v7 < 0) →
    wp_X8_countItem_b116 Q (wp_X8_countItem_l51 Q n) x1 x2 x3 x5 σ6) ∧
    (¬ (v7 < 0) →
    wp_X1_isFull x5 σ6 (fun r8 σ9 =>
    ((r8 = 0) →
    wp_X8_countItem_b116 Q (wp_X8_countItem_l51 Q n) x1 x2 x3 x5 σ9) ∧
    (¬ (r8 = 0) →
    wp_X8_countCase x5 v7 σ9 (fun r10 σ11 =>
    wp_X8_add x3 r10 σ11 (fun r12 σ13 =>
    wp_X8_countItem_b116 Q (wp_X8_countItem_l51 Q n) x1 x2 r12 x5 σ13)))))))
def wp_X8_countItem (x1 : Int) (x2 : Int) (σ : St) (Q : Int → St → Prop) : Prop :=
 wp_X1_has x1 σ (fun r1 σ2 =>
 ((r1 = 0) →
 Q 0 σ2) ∧
 (¬ (r1 = 0) →
 (0 ≤ x1 ∧ x1 < 432) ∧
 ((x2 < σ2 37 (x1.toNat)) →
 Q 0 σ2) ∧
 (¬ (x2 < σ2 37 (x1.toNat)) →
 (0 ≤ x1 ∧ x1 < 432) ∧
 ((σ2 79 (x1.toNat) < 1000000000000001) →
 wp_X0_caseStart x1 σ2 (fun r3 σ4 =>
 wp_X8_countItem_l51 Q bigN x1 x2 0 r3 σ4)) ∧
 (¬ (σ2 79 (x1.toNat) < 1000000000000001) →
 Q 0 σ2))))
def wp_X8_countSpan_b102 (Q : Int → St → Prop) (K15 : Int → Int → Int → Int → St → Prop) (K32 : Int → Int → Int → Int → Int → St → Prop) (x1 : Int) (x2 : Int) (x3 : Int) (x4 : Int) (x5 : Int) (σ : St) : Prop :=
 ∀ v12 : Int, v12 = w32 (x5 + 1) →
 K32 x1 x2 x3 x4 v12 σ
def wp_X8_countSpan_l32 (Q : Int → St → Prop) (K15 : Int → Int → Int → Int → St → Prop) : Nat → Int → Int → Int → Int → Int → St → Prop
  | 0, _, _, _, _, _, _ => False
  | n + 1, x1, x2, x3, x4, x5, σ =>
    ((x5 ≥ w32 (x3 + 12)) →
    (0 ≤ x1 ∧ x1 < 36) ∧ ∀ σ3 : St, σ3 = upS σ 77 x1.toNat x4 →
    ∀ v4 : Int, v4 = w32 (x4 + 1) →
    K15 x1 x2 x3 v4 σ3) ∧
    (¬ (x5 ≥ w32 (x3 + 12)) →
    wp_X8_countItem x5 x4 σ (fun r5 σ6 =>
    (0 ≤ w32 ((w32 (x5 * 301)) + x4) ∧ w32 ((w32 (x5 * 301)) + x4) < 130032) ∧ ∀ σ7 : St, σ7 = upS σ6 83 (w32 ((w32 (x5 * 301)) + x4)).toNat r5 →
    ((r5 = 0) →
    wp_X8_countSpan_b102 Q K15 (wp_X8_countSpan_l32 Q K15 n) x1 x2 x3 x4 x5 σ7) ∧
    (¬ (r5 = 0) →
    (0 ≤ x5 ∧ x5 < 432) ∧ ∀ σ8 : St, σ8 = upS σ7 78 x5.toNat x4 →
    (0 ≤ x5 ∧ x5 < 432) ∧
    wp_X8_add (σ8 79 (x5.toNat)) r5 σ8 (fun r9 σ10 =>
    (0 ≤ x5 ∧ x5 < 432) ∧ ∀ σ11 : St, σ11 = upS σ10 79 x5.toNat r9 →
    wp_X8_countSpan_b102 Q K15 (wp_X8_countSpan_l32 Q K15 n) x1 x2 x3 x4 x5 σ11))))
def wp_X8_countSpan_l15 (Q : Int → St → Prop) : Nat → Int → Int → Int → Int → St → Prop
  | 0, _, _, _, _, _ => False
  | n + 1, x1, x2, x3, x4, σ =>
    ((x4 > x2) →
    Q 0 σ) ∧
    (¬ (x4 > x2) →
    ((x4 ≥ 301) →
    Q 0 σ) ∧
    (¬ (x4 ≥ 301) →
    wp_X8_countSpan_l32 Q (wp_X8_countSpan_l15 Q n) bigN x1 x2 x3 x4 x3 σ))
def wp_X8_countSpan (x1 : Int) (x2 : Int) (σ : St) (Q : Int → St → Prop) : Prop :=
 ∀ v1 : Int, v1 = w32 (x1 * 12) →
 (0 ≤ x1 ∧ x1 < 36) ∧
 ∀ v2 : Int, v2 = w32 ((σ 77 (x1.toNat)) + 1) →
 wp_X8_countSpan_l15 Q bigN x1 x2 v1 v2 σ
def wp_X8_upTo_b56 (Q : Int → St → Prop) (K30 : Int → Int → Int → Int → St → Prop) (x1 : Int) (x2 : Int) (x3 : Int) (x4 : Int) (σ : St) : Prop :=
 ∀ v11 : Int, v11 = w32 (x4 + 1) →
 K30 x1 x2 x3 v11 σ
def wp_X8_upTo_l68 (Q : Int → St → Prop) : Nat → Int → Int → Int → Int → St → Prop
  | 0, _, _, _, _, _ => False
  | n + 1, x1, x2, x4, x6, σ =>
    ((x6 > x2) →
    Q x4 σ) ∧
    (¬ (x6 > x2) →
    ((x6 ≥ 301) →
    Q x4 σ) ∧
    (¬ (x6 ≥ 301) →
    (0 ≤ w32 ((w32 (x1 * 301)) + x6) ∧ w32 ((w32 (x1 * 301)) + x6) < 130032) ∧
    wp_X8_add x4 (σ 83 ((w32 ((w32 (x1 * 301)) + x6)).toNat)) σ (fun r8 σ9 =>
    ∀ v10 : Int, v10 = w32 (x6 + 1) →
    (wp_X8_upTo_l68 Q n) x1 x2 r8 v10 σ9)))
def wp_X8_upTo_l30 (Q : Int → St → Prop) : Nat → Int → Int → Int → Int → St → Prop
  | 0, _, _, _, _, _ => False
  | n + 1, x1, x2, x3, x4, σ =>
    ((x4 > x3) →
    wp_X8_upTo_l68 Q bigN x1 x2 0 1 σ) ∧
    (¬ (x4 > x3) →
    wp_X0_isInside x4 x3 σ (fun r4 σ5 =>
    ((r4 = 0) →
    wp_X8_upTo_b56 Q (wp_X8_upTo_l30 Q n) x1 x2 x3 x4 σ5) ∧
    (¬ (r4 = 0) →
    wp_X8_countSpan x4 x2 σ5 (fun r6 σ7 =>
    wp_X8_upTo_b56 Q (wp_X8_upTo_l30 Q n) x1 x2 x3 x4 σ7))))
def wp_X8_upTo_b22 (Q : Int → St → Prop) (x1 : Int) (x2 : Int) (σ : St) : Prop :=
 ∀ v3 : Int, v3 = b_div x1 12 →
 wp_X8_upTo_l30 Q bigN x1 x2 v3 0 σ
def wp_X8_upTo (x1 : Int) (x2 : Int) (σ : St) (Q : Int → St → Prop) : Prop :=
 wp_X1_prepare σ (fun r1 σ2 =>
 wp_X8_upTo_b22 Q x1 x2 σ2)
def wp_X11_cheap (x1 : Int) (x2 : Int) (x3 : Int) (x4 : Int) (σ : St) (Q : Int → St → Prop) : Prop :=
 wp_X11_itemOf x1 x2 x3 σ (fun r1 σ2 =>
 ((r1 < 0) →
 Q ((-2)) σ2) ∧
 (¬ (r1 < 0) →
 ((x4 < 0) →
 Q ((-2)) σ2) ∧
 (¬ (x4 < 0) →
 ((x4 ≤ 300) →
 wp_X8_upTo r1 x4 σ2 (fun r3 σ4 =>
 wp_X11_tellNumber r3 σ4 (fun r5 σ6 =>
 Q r5 σ6))) ∧
 (¬ (x4 ≤ 300) →
 Q ((-2)) σ2))))
def wp_X10_push_o (x1 : Int) (x2 : Int) (σ : St) (Q : Int → St → Prop) : Prop :=
 ((σ 72 6 ≥ 2560) →
 Q 0 σ) ∧
 (¬ (σ 72 6 ≥ 2560) →
 (0 ≤ σ 72 6 ∧ σ 72 6 < 2560) ∧ ∀ σ1 : St, σ1 = upS σ 73 (σ 72 6).toNat x1 →
 (0 ≤ σ1 72 6 ∧ σ1 72 6 < 2560) ∧ ∀ σ2 : St, σ2 = upS σ1 74 (σ1 72 6).toNat x2 →
 ∀ σ3 : St, σ3 = upS σ2 72 6 (w32 ((σ2 72 6) + 1)) →
 Q 0 σ3)
def wp_X10_pushTree_o (x1 : Int) (x2 : Int) (σ : St) (Q : Int → St → Prop) : Prop :=
 ((x1 < 0) →
 Q 0 σ) ∧
 (¬ (x1 < 0) →
 wp_X10_push_o x1 x2 σ (fun r1 σ2 =>
 Q 0 σ2))
def wp_X10_follow_o_l23 (Q : Int → St → Prop) : Nat → Int → St → Prop
  | 0, _, _ => False
  | n + 1, x2, σ =>
    ((x2 ≥ 512) →
    Q 0 σ) ∧
    (¬ (x2 ≥ 512) →
    ((σ 72 6 ≤ 0) →
    Q 0 σ) ∧
    (¬ (σ 72 6 ≤ 0) →
    ∀ σ6 : St, σ6 = upS σ 72 6 (w32 ((σ 72 6) - 1)) →
    (0 ≤ σ6 72 6 ∧ σ6 72 6 < 2560) ∧
    ∀ v7 : Int, v7 = σ6 73 ((σ6 72 6).toNat) →
    (0 ≤ σ6 72 6 ∧ σ6 72 6 < 2560) ∧
    ∀ v8 : Int, v8 = σ6 74 ((σ6 72 6).toNat) →
    (0 ≤ σ6 72 7 ∧ σ6 72 7 < 512) ∧ ∀ σ9 : St, σ9 = upS σ6 75 (σ6 72 7).toNat v7 →
    ∀ σ10 : St, σ10 = upS σ9 72 7 (w32 ((σ9 72 7) + 1)) →
    ∀ σ11 : St, σ11 = upS σ10 72 8 (max (σ10 72 8) v8) →
    wp_X3_rightTree v7 σ11 (fun r12 σ13 =>
    wp_X10_pushTree_o r12 (w32 (v8 + 1)) σ13 (fun r14 σ15 =>
    wp_X3_leftTree v7 σ15 (fun r16 σ17 =>
    wp_X10_pushTree_o r16 (w32 (v8 + 1)) σ17 (fun r18 σ19 =>
    ∀ v20 : Int, v20 = w32 (x2 + 1) →
    (wp_X10_follow_o_l23 Q n) v20 σ19))))))
def wp_X10_follow_o (x1 : Int) (σ : St) (Q : Int → St → Prop) : Prop :=
 ∀ σ1 : St, σ1 = upS σ 72 7 0 →
 ∀ σ2 : St, σ2 = upS σ1 72 8 0 →
 ∀ σ3 : St, σ3 = upS σ2 72 6 0 →
 wp_X10_push_o x1 1 σ3 (fun r4 σ5 =>
 wp_X10_follow_o_l23 Q bigN 0 σ5)
def wp_X10_caseAt_o (x1 : Int) (σ : St) (Q : Int → St → Prop) : Prop :=
 (0 ≤ x1 ∧ x1 < 512) ∧
 (0 ≤ σ 75 (x1.toNat) ∧ σ 75 (x1.toNat) < 6912) ∧
 Q (σ 56 ((σ 75 (x1.toNat)).toNat)) σ
def wp_X10_alikeWith_c72_l14 (Q : Int → St → Prop) : Nat → Int → Int → St → Prop
  | 0, _, _, _ => False
  | n + 1, x2, x3, σ =>
    ((x3 ≥ x2) →
    Q x3 σ) ∧
    (¬ (x3 ≥ x2) →
    wp_X10_caseAt x3 σ (fun r2 σ3 =>
    wp_X10_caseAt_o x3 σ3 (fun r4 σ5 =>
    ((r2 ≠ r4) →
    Q x3 σ5) ∧
    (¬ (r2 ≠ r4) →
    ∀ v6 : Int, v6 = w32 (x3 + 1) →
    (wp_X10_alikeWith_c72_l14 Q n) x2 v6 σ5))))
def wp_X10_alikeWith_c72 (σ : St) (Q : Int → St → Prop) : Prop :=
 ∀ v1 : Int, v1 = min (σ 68 7) (σ 72 7) →
 wp_X10_alikeWith_c72_l14 Q bigN v1 0 σ
def wp_X11_alike (x1 : Int) (x2 : Int) (x3 : Int) (x4 : Int) (x5 : Int) (σ : St) (Q : Int → St → Prop) : Prop :=
 wp_X11_itemOf x1 x2 x3 σ (fun r1 σ2 =>
 ((r1 < 0) →
 Q ((-2)) σ2) ∧
 (¬ (r1 < 0) →
 wp_X11_isPlace x4 σ2 (fun r3 σ4 =>
 ((r3 = 0) →
 Q ((-2)) σ4) ∧
 (¬ (r3 = 0) →
 wp_X11_isPlace x5 σ4 (fun r5 σ6 =>
 ((r5 ≠ 0) →
 wp_X3_treeOf r1 x4 σ6 (fun r7 σ8 =>
 wp_X3_treeOf r1 x5 σ8 (fun r9 σ10 =>
 ((r7 < 0) →
 Q ((-1)) σ10) ∧
 (¬ (r7 < 0) →
 ((r9 ≥ 0) →
 wp_X10_follow r7 σ10 (fun r11 σ12 =>
 wp_X10_follow_o r9 σ12 (fun r13 σ14 =>
 wp_X10_alikeWith_c72 σ14 (fun r15 σ16 =>
 Q r15 σ16)))) ∧
 (¬ (r9 ≥ 0) →
 Q ((-1)) σ10))))) ∧
 (¬ (r5 ≠ 0) →
 Q ((-2)) σ6))))))
def wp_X1_leastOfCases_c39_b159 (Q : Int → St → Prop) (K13 : Int → Int → Int → Int → Int → St → Prop) (x2 : Int) (x3 : Int) (x4 : Int) (x5 : Int) (x6 : Int) (σ : St) : Prop :=
 ∀ v8 : Int, v8 = w32 (x6 + 1) →
 K13 x2 x3 x4 x5 v8 σ
def wp_X1_leastOfCases_c39_b116 (Q : Int → St → Prop) (K13 : Int → Int → Int → Int → Int → St → Prop) (x2 : Int) (x3 : Int) (x4 : Int) (x5 : Int) (x6 : Int) (x7 : Int) (x8 : Int) (s0 : Int) (σ : St) : Prop :=
 ((x8 < 0) →
 wp_X1_leastOfCases_c39_b159 Q K13 x2 x3 x4 x5 x6 σ) ∧
 (¬ (x8 < 0) →
 ((s0 < 0) →
 wp_X1_leastOfCases_c39_b159 Q K13 x2 x3 x4 x5 x6 σ) ∧
 (¬ (s0 < 0) →
 (0 ≤ x7 ∧ x7 < 40) ∧
 wp_X1_join x8 s0 x4 σ (fun r9 σ10 =>
 wp_X1_join (σ 18 (x7.toNat)) r9 x4 σ10 (fun r11 σ12 =>
 wp_X1_lesser x5 r11 σ12 (fun r13 σ14 =>
 wp_X1_leastOfCases_c39_b159 Q K13 x2 x3 x4 r13 x6 σ14)))))
def wp_X1_leastOfCases_c39_b85 (Q : Int → St → Prop) (K13 : Int → Int → Int → Int → Int → St → Prop) (x2 : Int) (x3 : Int) (x4 : Int) (x5 : Int) (x6 : Int) (x7 : Int) (s0 : Int) (σ : St) : Prop :=
 (0 ≤ x6 ∧ x6 < 3360) ∧
 ((σ 32 (x6.toNat) ≥ 0) →
 (0 ≤ x6 ∧ x6 < 3360) ∧
 (0 ≤ σ 32 (x6.toNat) ∧ σ 32 (x6.toNat) < 432) ∧
 wp_X1_leastOfCases_c39_b116 Q K13 x2 x3 x4 x5 x6 x7 s0 (σ 39 ((σ 32 (x6.toNat)).toNat)) σ) ∧
 (¬ (σ 32 (x6.toNat) ≥ 0) →
 wp_X1_leastOfCases_c39_b116 Q K13 x2 x3 x4 x5 x6 x7 s0 0 σ)
def wp_X1_leastOfCases_c39_l13 (Q : Int → St → Prop) : Nat → Int → Int → Int → Int → Int → St → Prop
  | 0, _, _, _, _, _, _ => False
  | n + 1, x2, x3, x4, x5, x6, σ =>
    wp_X0_caseEnd x2 σ (fun r3 σ4 =>
    ((x6 ≥ r3) →
    Q x5 σ4) ∧
    (¬ (x6 ≥ r3) →
    (0 ≤ x6 ∧ x6 < 3360) ∧
    ∀ v5 : Int, v5 = σ4 29 (x6.toNat) →
    ((v5 = x3) →
    wp_X1_leastOfCases_c39_b159 Q (wp_X1_leastOfCases_c39_l13 Q n) x2 x3 x4 x5 x6 σ4) ∧
    (¬ (v5 = x3) →
    wp_X0_goesOn x6 σ4 (fun r6 σ7 =>
    ((r6 ≠ 0) →
    wp_X1_leastOfCases_c39_b159 Q (wp_X1_leastOfCases_c39_l13 Q n) x2 x3 x4 x5 x6 σ7) ∧
    (¬ (r6 ≠ 0) →
    (0 ≤ x6 ∧ x6 < 3360) ∧
    ((σ7 31 (x6.toNat) ≥ 0) →
    (0 ≤ x6 ∧ x6 < 3360) ∧
    (0 ≤ σ7 31 (x6.toNat) ∧ σ7 31 (x6.toNat) < 432) ∧
    wp_X1_leastOfCases_c39_b85 Q (wp_X1_leastOfCases_c39_l13 Q n) x2 x3 x4 x5 x6 v5 (σ7 39 ((σ7 31 (x6.toNat)).toNat)) σ7) ∧
    (¬ (σ7 31 (x6.toNat) ≥ 0) →
    wp_X1_leastOfCases_c39_b85 Q (wp_X1_leastOfCases_c39_l13 Q n) x2 x3 x4 x5 x6 v5 0 σ7))))))
def wp_X1_leastOfCases_c39 (x2 : Int) (x3 : Int) (x4 : Int) (σ : St) (Q : Int → St → Prop) : Prop :=
 wp_X0_caseStart x2 σ (fun r1 σ2 =>
 wp_X1_leastOfCases_c39_l13 Q bigN x2 x3 x4 ((-1)) r1 σ2)
def wp_X1_relax_c39_b122 (Q : Int → St → Prop) (K6 : Int → Int → Int → Int → Int → St → Prop) (x2 : Int) (x3 : Int) (x4 : Int) (x5 : Int) (x6 : Int) (σ : St) : Prop :=
 ∀ v8 : Int, v8 = w32 (x6 + 1) →
 K6 x2 x3 x4 x5 v8 σ
def wp_X1_relax_c39_b113 (Q : Int → St → Prop) (K6 : Int → Int → Int → Int → Int → St → Prop) (x2 : Int) (x3 : Int) (x4 : Int) (x6 : Int) (x9 : Int) (x10 : Int) (s0 : Int) (s1 : Int) (σ : St) : Prop :=
 ∀ v9 : Int, v9 = b_or s1 s0 →
 (0 ≤ x9 ∧ x9 < 432) ∧ ∀ σ10 : St, σ10 = upS σ 39 x9.toNat x10 →
 wp_X1_relax_c39_b122 Q K6 x2 x3 x4 v9 x6 σ10
def wp_X1_relax_c39_l6 (Q : Int → St → Prop) : Nat → Int → Int → Int → Int → Int → St → Prop
  | 0, _, _, _, _, _, _ => False
  | n + 1, x2, x3, x4, x5, x6, σ =>
    ((x6 ≥ σ 24 12) →
    (x5 = 0 ∨ x5 = 1) ∧ Q x5 σ) ∧
    (¬ (x6 ≥ σ 24 12) →
    (0 ≤ x6 ∧ x6 < 40) ∧
    ∀ v1 : Int, v1 = σ 33 (x6.toNat) →
    (0 ≤ v1 ∧ v1 < 40) ∧
    (0 ≤ w32 (x2 + (σ 16 (v1.toNat))) ∧ w32 (x2 + (σ 16 (v1.toNat))) < 432) ∧
    ∀ v2 : Int, v2 = σ 39 ((w32 (x2 + (σ 16 (v1.toNat)))).toNat) →
    (0 ≤ v1 ∧ v1 < 40) ∧
    ∀ v3 : Int, v3 = w32 (x2 + (σ 15 (v1.toNat))) →
    ((v1 = x3) →
    wp_X1_relax_c39_b122 Q (wp_X1_relax_c39_l6 Q n) x2 x3 x4 x5 x6 σ) ∧
    (¬ (v1 = x3) →
    ((v2 < 0) →
    wp_X1_relax_c39_b122 Q (wp_X1_relax_c39_l6 Q n) x2 x3 x4 x5 x6 σ) ∧
    (¬ (v2 < 0) →
    (0 ≤ v3 ∧ v3 < 432) ∧
    (0 ≤ v1 ∧ v1 < 40) ∧
    wp_X1_join (σ 18 (v1.toNat)) v2 x4 σ (fun r4 σ5 =>
    wp_X1_lesser (σ 39 (v3.toNat)) r4 σ5 (fun r6 σ7 =>
    (0 ≤ v3 ∧ v3 < 432) ∧
    ((r6 = σ7 39 (v3.toNat)) →
    wp_X1_relax_c39_b113 Q (wp_X1_relax_c39_l6 Q n) x2 x3 x4 x6 v3 r6 0 x5 σ7) ∧
    (¬ (r6 = σ7 39 (v3.toNat)) →
    wp_X1_relax_c39_b113 Q (wp_X1_relax_c39_l6 Q n) x2 x3 x4 x6 v3 r6 1 x5 σ7))))))
def wp_X1_relax_c39 (x2 : Int) (x3 : Int) (x4 : Int) (σ : St) (Q : Int → St → Prop) : Prop :=
 wp_X1_relax_c39_l6 Q bigN x2 x3 x4 0 0 σ
def wp_X1_fill_c39_b90 (Q : Int → St → Prop) (K3 : Int → Int → Int → St → Prop) (x2 : Int) (x3 : Int) (x4 : Int) (σ : St) : Prop :=
 ∀ v9 : Int, v9 = w32 (x4 + 1) →
 K3 x2 x3 v9 σ
def wp_X1_fill_c39_l61 (Q : Int → St → Prop) (K3 : Int → Int → Int → St → Prop) : Nat → Int → Int → Int → Int → Int → Int → St → Prop
  | 0, _, _, _, _, _, _, _ => False
  | n + 1, x2, x3, x4, x5, x6, x7, σ =>
    ((x7 > 12) →
    wp_X1_fill_c39_b90 Q K3 x2 x3 x4 σ) ∧
    (¬ (x7 > 12) →
    ((x6 = 0) →
    wp_X1_fill_c39_b90 Q K3 x2 x3 x4 σ) ∧
    (¬ (x6 = 0) →
    wp_X1_relax_c39 x5 x2 x3 σ (fun r6 σ7 =>
    ∀ v8 : Int, v8 = w32 (x7 + 1) →
    (wp_X1_fill_c39_l61 Q K3 n) x2 x3 x4 x5 r6 v8 σ7)))
def wp_X1_fill_c39_l26 (Q : Int → St → Prop) (K3 : Int → Int → Int → St → Prop) : Nat → Int → Int → Int → Int → Int → St → Prop
  | 0, _, _, _, _, _, _ => False
  | n + 1, x2, x3, x4, x5, x6, σ =>
    ((x6 ≥ w32 (x5 + 12)) →
    wp_X1_fill_c39_l61 Q K3 bigN x2 x3 x4 x5 1 0 σ) ∧
    (¬ (x6 ≥ w32 (x5 + 12)) →
    wp_X1_leastOfCases_c39 x6 x2 x3 σ (fun r2 σ3 =>
    (0 ≤ x6 ∧ x6 < 432) ∧ ∀ σ4 : St, σ4 = upS σ3 39 x6.toNat r2 →
    ∀ v5 : Int, v5 = w32 (x6 + 1) →
    (wp_X1_fill_c39_l26 Q K3 n) x2 x3 x4 x5 v5 σ4))
def wp_X1_fill_c39_l3 (Q : Int → St → Prop) : Nat → Int → Int → Int → St → Prop
  | 0, _, _, _, _ => False
  | n + 1, x2, x3, x4, σ =>
    ((x4 ≥ σ 24 3) →
    Q 0 σ) ∧
    (¬ (x4 ≥ σ 24 3) →
    ∀ v1 : Int, v1 = w32 (x4 * 12) →
    wp_X1_fill_c39_l26 Q (wp_X1_fill_c39_l3 Q n) bigN x2 x3 x4 v1 v1 σ)
def wp_X1_fill_c39 (x2 : Int) (x3 : Int) (σ : St) (Q : Int → St → Prop) : Prop :=
 wp_X1_fill_c39_l3 Q bigN x2 x3 0 σ
def wp_X1_lowestWithout (x1 : Int) (x2 : Int) (σ : St) (Q : Int → St → Prop) : Prop :=
 wp_X0_build σ (fun r1 σ2 =>
 wp_X1_fill_c39 x2 1 σ2 (fun r3 σ4 =>
 (0 ≤ x1 ∧ x1 < 432) ∧
 Q (σ4 39 (x1.toNat)) σ4))
def wp_X11_without (x1 : Int) (σ : St) (Q : Int → St → Prop) : Prop :=
 wp_X4_knows x1 σ (fun r1 σ2 =>
 ((r1 ≠ 0) →
 wp_X11_wholeItem σ2 (fun r3 σ4 =>
 ((r3 ≥ 0) →
 wp_X1_lowestWithout r3 x1 σ4 (fun r5 σ6 =>
 Q r5 σ6)) ∧
 (¬ (r3 ≥ 0) →
 Q ((-1)) σ4))) ∧
 (¬ (r1 ≠ 0) →
 Q ((-2)) σ2))
def wp_X11_heads_b60 (Q : Int → St → Prop) (K4 : Int → Int → St → Prop) (x1 : Int) (x2 : Int) (σ : St) : Prop :=
 ∀ v8 : Int, v8 = w32 (x2 + 1) →
 K4 x1 v8 σ
def wp_X11_heads_l4 (Q : Int → St → Prop) : Nat → Int → Int → St → Prop
  | 0, _, _, _ => False
  | n + 1, x1, x2, σ =>
    ((x2 > σ 24 2) →
    Q x1 σ) ∧
    (¬ (x2 > σ 24 2) →
    ((σ 14 0 ≤ 0) →
    Q x1 σ) ∧
    (¬ (σ 14 0 ≤ 0) →
    wp_X4_start σ (fun r1 σ2 =>
    wp_X11_itemOf r1 0 x2 σ2 (fun r3 σ4 =>
    ((r3 < 0) →
    wp_X11_heads_b60 Q (wp_X11_heads_l4 Q n) x1 x2 σ4) ∧
    (¬ (r3 < 0) →
    wp_X1_lowestOf r3 σ4 (fun r5 σ6 =>
    ((r5 ≤ 0) →
    wp_X11_heads_b60 Q (wp_X11_heads_l4 Q n) x1 x2 σ6) ∧
    (¬ (r5 ≤ 0) →
    ∀ v7 : Int, v7 = b_or x1 (b_shl 1 x2) →
    wp_X11_heads_b60 Q (wp_X11_heads_l4 Q n) v7 x2 σ6)))))))
def wp_X11_heads (σ : St) (Q : Int → St → Prop) : Prop :=
 wp_X11_heads_l4 Q bigN 0 1 σ
def wp_J7_fill_53178_C_c82_l5 (Q : Int → St → Prop) : Nat → Int → Int → Int → St → Prop
  | 0, _, _, _, _ => False
  | n + 1, x1, x2, x3, σ =>
    ((x2 ≥ x3) →
    Q 0 σ) ∧
    (¬ (x2 ≥ x3) →
    (0 ≤ x2 ∧ x2 < 208) ∧ ∀ σ1 : St, σ1 = upS σ 82 x2.toNat x1 →
    ∀ v2 : Int, v2 = w32 (x2 + 1) →
    (wp_J7_fill_53178_C_c82_l5 Q n) x1 v2 x3 σ1)
def wp_J7_fill_53178_C_c82 (x1 : Int) (σ : St) (Q : Int → St → Prop) : Prop :=
 wp_J7_fill_53178_C_c82_l5 Q bigN x1 0 208 σ
def wp_X5_choose_b112 (Q : Int → St → Prop) (K22 : Int → St → Prop) (K35 : Int → Int → St → Prop) (x1 : Int) (x2 : Int) (σ : St) : Prop :=
 ∀ v8 : Int, v8 = w32 (x2 + 1) →
 K35 x1 v8 σ
def wp_X5_choose_b97 (Q : Int → St → Prop) (K22 : Int → St → Prop) (K35 : Int → Int → St → Prop) (x1 : Int) (x2 : Int) (x3 : Int) (σ : St) : Prop :=
 ∀ σ9 : St, σ9 = upS σ 80 8 x3 →
 ∀ σ10 : St, σ10 = upS σ9 80 6 x1 →
 ∀ σ11 : St, σ11 = upS σ10 80 7 x2 →
 wp_X5_choose_b112 Q K22 K35 x1 x2 σ11
def wp_X5_choose_l35 (Q : Int → St → Prop) (K22 : Int → St → Prop) : Nat → Int → Int → St → Prop
  | 0, _, _, _ => False
  | n + 1, x1, x2, σ =>
    ((x2 ≥ 26) →
    ∀ v5 : Int, v5 = w32 (x1 + 1) →
    K22 v5 σ) ∧
    (¬ (x2 ≥ 26) →
    (0 ≤ w32 ((w32 (x1 * 26)) + x2) ∧ w32 ((w32 (x1 * 26)) + x2) < 208) ∧
    ∀ v6 : Int, v6 = σ 82 ((w32 ((w32 (x1 * 26)) + x2)).toNat) →
    ((v6 = (-1)) →
    wp_X5_choose_b112 Q K22 (wp_X5_choose_l35 Q K22 n) x1 x2 σ) ∧
    (¬ (v6 = (-1)) →
    (0 ≤ x1 ∧ x1 < 8) ∧
    ((x2 = σ 25 (x1.toNat)) →
    wp_X5_choose_b112 Q K22 (wp_X5_choose_l35 Q K22 n) x1 x2 σ) ∧
    (¬ (x2 = σ 25 (x1.toNat)) →
    ∀ σ7 : St, σ7 = upS σ 80 5 (w32 ((σ 80 5) + 1)) →
    ((σ7 80 8 = (-1)) →
    wp_X5_choose_b97 Q K22 (wp_X5_choose_l35 Q K22 n) x1 x2 v6 σ7) ∧
    (¬ (σ7 80 8 = (-1)) →
    ((v6 ≥ σ7 80 8) →
    wp_X5_choose_b112 Q K22 (wp_X5_choose_l35 Q K22 n) x1 x2 σ7) ∧
    (¬ (v6 ≥ σ7 80 8) →
    wp_X5_choose_b97 Q K22 (wp_X5_choose_l35 Q K22 n) x1 x2 v6 σ7)))))
def wp_X5_choose_l22 (Q : Int → St → Prop) : Nat → Int → St → Prop
  | 0, _, _ => False
  | n + 1, x1, σ =>
    ((x1 ≥ σ 24 2) →
    Q 0 σ) ∧
    (¬ (x1 ≥ σ 24 2) →
    wp_X5_choose_l35 Q (wp_X5_choose_l22 Q n) bigN x1 0 σ)
def wp_X5_choose (σ : St) (Q : Int → St → Prop) : Prop :=
 ∀ σ1 : St, σ1 = upS σ 80 5 0 →
 ∀ σ2 : St, σ2 = upS σ1 80 6 ((-1)) →
 ∀ σ3 : St, σ3 = upS σ2 80 7 ((-1)) →
 ∀ σ4 : St, σ4 = upS σ3 80 8 ((-1)) →
 wp_X5_choose_l22 Q bigN 0 σ4
def wp_J7_fill_53178_C_c81_l5 (Q : Int → St → Prop) : Nat → Int → Int → Int → St → Prop
  | 0, _, _, _, _ => False
  | n + 1, x1, x2, x3, σ =>
    ((x2 ≥ x3) →
    Q 0 σ) ∧
    (¬ (x2 ≥ x3) →
    (0 ≤ x2 ∧ x2 < 432) ∧ ∀ σ1 : St, σ1 = upS σ 81 x2.toNat x1 →
    ∀ v2 : Int, v2 = w32 (x2 + 1) →
    (wp_J7_fill_53178_C_c81_l5 Q n) x1 v2 x3 σ1)
def wp_J7_fill_53178_C_c81 (x1 : Int) (σ : St) (Q : Int → St → Prop) : Prop :=
 wp_J7_fill_53178_C_c81_l5 Q bigN x1 0 432 σ
def wp_X5_improve_c81 (x1 : Int) (x2 : Int) (σ : St) (Q : Int → St → Prop) : Prop :=
 (0 ≤ x1 ∧ x1 < 432) ∧
 ∀ v1 : Int, v1 = σ 81 (x1.toNat) →
 wp_X1_lesser v1 x2 σ (fun r2 σ3 =>
 (0 ≤ x1 ∧ x1 < 432) ∧ ∀ σ4 : St, σ4 = upS σ3 81 x1.toNat r2 →
 (0 ≤ x1 ∧ x1 < 432) ∧
 ((σ4 81 (x1.toNat) = v1) →
 Q 0 σ4) ∧
 (¬ (σ4 81 (x1.toNat) = v1) →
 Q 1 σ4))
def wp_X5_relax_b86 (Q : Int → St → Prop) (K4 : Int → Int → Int → St → Prop) (x1 : Int) (x2 : Int) (x3 : Int) (σ : St) : Prop :=
 ∀ v6 : Int, v6 = w32 (x3 + 1) →
 K4 x1 x2 v6 σ
def wp_X5_relax_l4 (Q : Int → St → Prop) : Nat → Int → Int → Int → St → Prop
  | 0, _, _, _, _ => False
  | n + 1, x1, x2, x3, σ =>
    ((x3 ≥ σ 24 12) →
    (x2 = 0 ∨ x2 = 1) ∧ Q x2 σ) ∧
    (¬ (x3 ≥ σ 24 12) →
    (0 ≤ x3 ∧ x3 < 40) ∧
    ∀ v1 : Int, v1 = σ 33 (x3.toNat) →
    (0 ≤ v1 ∧ v1 < 40) ∧
    (0 ≤ w32 (x1 + (σ 15 (v1.toNat))) ∧ w32 (x1 + (σ 15 (v1.toNat))) < 432) ∧
    ∀ v2 : Int, v2 = σ 81 ((w32 (x1 + (σ 15 (v1.toNat)))).toNat) →
    ((v2 = (-1)) →
    wp_X5_relax_b86 Q (wp_X5_relax_l4 Q n) x1 x2 x3 σ) ∧
    (¬ (v2 = (-1)) →
    (0 ≤ v1 ∧ v1 < 40) ∧
    (0 ≤ v1 ∧ v1 < 40) ∧
    wp_X5_improve_c81 (w32 (x1 + (σ 16 (v1.toNat)))) (w32 (v2 + (σ 18 (v1.toNat)))) σ (fun r3 σ4 =>
    ∀ v5 : Int, v5 = b_or x2 r3 →
    wp_X5_relax_b86 Q (wp_X5_relax_l4 Q n) x1 v5 x3 σ4)))
def wp_X5_relax (x1 : Int) (σ : St) (Q : Int → St → Prop) : Prop :=
 wp_X5_relax_l4 Q bigN x1 0 0 σ
def wp_X5_goToParts_b186 (Q : Int → St → Prop) (K9 : Int → Int → St → Prop) (x1 : Int) (x2 : Int) (σ : St) : Prop :=
 ∀ v12 : Int, v12 = w32 (x2 + 1) →
 K9 x1 v12 σ
def wp_X5_goToParts_b156 (Q : Int → St → Prop) (K9 : Int → Int → St → Prop) (x1 : Int) (x2 : Int) (x4 : Int) (x5 : Int) (x6 : Int) (x8 : Int) (σ : St) : Prop :=
 ((x8 = 0) →
 wp_X5_goToParts_b186 Q K9 x1 x2 σ) ∧
 (¬ (x8 = 0) →
 ((x4 < 0) →
 wp_X5_goToParts_b186 Q K9 x1 x2 σ) ∧
 (¬ (x4 < 0) →
 ((x6 < 0) →
 wp_X5_goToParts_b186 Q K9 x1 x2 σ) ∧
 (¬ (x6 < 0) →
 wp_X5_improve_c81 x4 (w32 (x5 + x6)) σ (fun r10 σ11 =>
 wp_X5_goToParts_b186 Q K9 x1 x2 σ11))))
def wp_X5_goToParts_b126 (Q : Int → St → Prop) (K9 : Int → Int → St → Prop) (x1 : Int) (x2 : Int) (x3 : Int) (x4 : Int) (x5 : Int) (x6 : Int) (x7 : Int) (s0 : Int) (σ : St) : Prop :=
 ((s0 = 0) →
 wp_X5_goToParts_b156 Q K9 x1 x2 x4 x5 x6 s0 σ) ∧
 (¬ (s0 = 0) →
 ((x3 < 0) →
 wp_X5_goToParts_b156 Q K9 x1 x2 x4 x5 x6 s0 σ) ∧
 (¬ (x3 < 0) →
 ((x7 < 0) →
 wp_X5_goToParts_b156 Q K9 x1 x2 x4 x5 x6 s0 σ) ∧
 (¬ (x7 < 0) →
 wp_X5_improve_c81 x3 (w32 (x5 + x7)) σ (fun r8 σ9 =>
 wp_X5_goToParts_b156 Q K9 x1 x2 x4 x5 x6 s0 σ9))))
def wp_X5_goToParts_b106 (Q : Int → St → Prop) (K9 : Int → Int → St → Prop) (x1 : Int) (x2 : Int) (x3 : Int) (x4 : Int) (x5 : Int) (x6 : Int) (s0 : Int) (σ : St) : Prop :=
 (0 ≤ x2 ∧ x2 < 3360) ∧
 ((σ 30 (x2.toNat) = (-1)) →
 wp_X5_goToParts_b126 Q K9 x1 x2 x3 x4 x5 x6 s0 0 σ) ∧
 (¬ (σ 30 (x2.toNat) = (-1)) →
 wp_X5_goToParts_b126 Q K9 x1 x2 x3 x4 x5 x6 s0 1 σ)
def wp_X5_goToParts_b85 (Q : Int → St → Prop) (K9 : Int → Int → St → Prop) (x1 : Int) (x2 : Int) (x3 : Int) (x4 : Int) (x5 : Int) (s0 : Int) (σ : St) : Prop :=
 ((x4 ≥ 0) →
 (0 ≤ x4 ∧ x4 < 432) ∧
 wp_X5_goToParts_b106 Q K9 x1 x2 x3 x4 x5 s0 (σ 37 (x4.toNat)) σ) ∧
 (¬ (x4 ≥ 0) →
 wp_X5_goToParts_b106 Q K9 x1 x2 x3 x4 x5 s0 0 σ)
def wp_X5_goToParts_l9 (Q : Int → St → Prop) : Nat → Int → Int → St → Prop
  | 0, _, _, _ => False
  | n + 1, x1, x2, σ =>
    wp_X0_caseEnd x1 σ (fun r3 σ4 =>
    ((x2 ≥ r3) →
    Q 0 σ4) ∧
    (¬ (x2 ≥ r3) →
    (0 ≤ x2 ∧ x2 < 3360) ∧
    ∀ v5 : Int, v5 = σ4 31 (x2.toNat) →
    (0 ≤ x2 ∧ x2 < 3360) ∧
    ∀ v6 : Int, v6 = σ4 32 (x2.toNat) →
    (0 ≤ x1 ∧ x1 < 432) ∧
    (0 ≤ x2 ∧ x2 < 3360) ∧
    (0 ≤ σ4 29 (x2.toNat) ∧ σ4 29 (x2.toNat) < 40) ∧
    ∀ v7 : Int, v7 = w32 ((σ4 81 (x1.toNat)) + (σ4 18 ((σ4 29 (x2.toNat)).toNat))) →
    ((v5 ≥ 0) →
    (0 ≤ v5 ∧ v5 < 432) ∧
    wp_X5_goToParts_b85 Q (wp_X5_goToParts_l9 Q n) x1 x2 v5 v6 v7 (σ4 37 (v5.toNat)) σ4) ∧
    (¬ (v5 ≥ 0) →
    wp_X5_goToParts_b85 Q (wp_X5_goToParts_l9 Q n) x1 x2 v5 v6 v7 0 σ4)))
def wp_X5_goToParts (x1 : Int) (σ : St) (Q : Int → St → Prop) : Prop :=
 wp_X0_caseStart x1 σ (fun r1 σ2 =>
 wp_X5_goToParts_l9 Q bigN x1 r1 σ2)
def wp_X5_goDown_b94 (Q : Int → St → Prop) (K25 : Int → St → Prop) (K68 : Int → Int → Int → St → Prop) (x2 : Int) (x3 : Int) (x5 : Int) (σ : St) : Prop :=
 ∀ v12 : Int, v12 = w32 (x5 + 1) →
 K68 x2 x3 v12 σ
def wp_X5_goDown_l68 (Q : Int → St → Prop) (K25 : Int → St → Prop) : Nat → Int → Int → Int → St → Prop
  | 0, _, _, _, _ => False
  | n + 1, x2, x3, x5, σ =>
    ((x5 ≥ w32 (x3 + 12)) →
    ∀ v9 : Int, v9 = w32 (x2 + (-1)) →
    K25 v9 σ) ∧
    (¬ (x5 ≥ w32 (x3 + 12)) →
    (0 ≤ x5 ∧ x5 < 432) ∧
    ((σ 81 (x5.toNat) = (-1)) →
    wp_X5_goDown_b94 Q K25 (wp_X5_goDown_l68 Q K25 n) x2 x3 x5 σ) ∧
    (¬ (σ 81 (x5.toNat) = (-1)) →
    wp_X5_goToParts x5 σ (fun r10 σ11 =>
    wp_X5_goDown_b94 Q K25 (wp_X5_goDown_l68 Q K25 n) x2 x3 x5 σ11)))
def wp_X5_goDown_b65 (Q : Int → St → Prop) (K25 : Int → St → Prop) (x2 : Int) (x3 : Int) (σ : St) : Prop :=
 wp_X5_goDown_l68 Q K25 bigN x2 x3 x3 σ
def wp_X5_goDown_l40 (Q : Int → St → Prop) (K25 : Int → St → Prop) : Nat → Int → Int → Int → Int → St → Prop
  | 0, _, _, _, _, _ => False
  | n + 1, x2, x3, x4, x5, σ =>
    ((x5 > 12) →
    wp_X5_goDown_b65 Q K25 x2 x3 σ) ∧
    (¬ (x5 > 12) →
    ((x4 = 0) →
    wp_X5_goDown_b65 Q K25 x2 x3 σ) ∧
    (¬ (x4 = 0) →
    wp_X5_relax x3 σ (fun r6 σ7 =>
    ∀ v8 : Int, v8 = w32 (x5 + 1) →
    (wp_X5_goDown_l40 Q K25 n) x2 x3 r6 v8 σ7)))
def wp_X5_goDown_l25 (Q : Int → St → Prop) : Nat → Int → St → Prop
  | 0, _, _ => False
  | n + 1, x2, σ =>
    ((x2 < 0) →
    Q 0 σ) ∧
    (¬ (x2 < 0) →
    ∀ v5 : Int, v5 = w32 (x2 * 12) →
    wp_X5_goDown_l40 Q (wp_X5_goDown_l25 Q n) bigN x2 v5 1 0 σ)
def wp_X5_goDown (x1 : Int) (σ : St) (Q : Int → St → Prop) : Prop :=
 wp_J7_fill_53178_C_c81 ((-1)) σ (fun r1 σ2 =>
 (0 ≤ x1 ∧ x1 < 432) ∧ ∀ σ3 : St, σ3 = upS σ2 81 x1.toNat 0 →
 ∀ v4 : Int, v4 = w32 ((σ3 24 3) - 1) →
 wp_X5_goDown_l25 Q bigN v4 σ3)
def wp_X5_partCost_b52 (Q : Int → St → Prop) (σ : St) : Prop :=
 Q ((-1)) σ
def wp_X5_partCost (x1 : Int) (x2 : Int) (x3 : Int) (σ : St) (Q : Int → St → Prop) : Prop :=
 ((x1 ≥ 100) →
 ((x3 ≠ w32 (x2 + 1)) →
 wp_X5_partCost_b52 Q σ) ∧
 (¬ (x3 ≠ w32 (x2 + 1)) →
 (0 ≤ x2 ∧ x2 < 8) ∧
 ((σ 25 (x2.toNat) ≠ w32 (x1 - 100)) →
 wp_X5_partCost_b52 Q σ) ∧
 (¬ (σ 25 (x2.toNat) ≠ w32 (x1 - 100)) →
 Q 0 σ))) ∧
 (¬ (x1 ≥ 100) →
 wp_X0_itemAt x1 x2 x3 σ (fun r1 σ2 =>
 (0 ≤ r1 ∧ r1 < 432) ∧
 Q (σ2 37 (r1.toNat)) σ2))
def wp_X5_improve_c82 (x1 : Int) (x2 : Int) (σ : St) (Q : Int → St → Prop) : Prop :=
 (0 ≤ x1 ∧ x1 < 208) ∧
 ∀ v1 : Int, v1 = σ 82 (x1.toNat) →
 wp_X1_lesser v1 x2 σ (fun r2 σ3 =>
 (0 ≤ x1 ∧ x1 < 208) ∧ ∀ σ4 : St, σ4 = upS σ3 82 x1.toNat r2 →
 (0 ≤ x1 ∧ x1 < 208) ∧
 ((σ4 82 (x1.toNat) = v1) →
 Q 0 σ4) ∧
 (¬ (σ4 82 (x1.toNat) = v1) →
 Q 1 σ4))
def wp_X5_tryLetter (x1 : Int) (x2 : Int) (x3 : Int) (x4 : Int) (σ : St) (Q : Int → St → Prop) : Prop :=
 ((x1 < 100) →
 Q 0 σ) ∧
 (¬ (x1 < 100) →
 ((x3 = (-1)) →
 Q 0 σ) ∧
 (¬ (x3 = (-1)) →
 wp_X5_improve_c82 (w32 ((w32 ((w32 (x2 * 26)) + x1)) - 100)) (w32 (x4 + x3)) σ (fun r1 σ2 =>
 Q 0 σ2)))
def wp_X5_tryRule_b94 (Q : Int → St → Prop) (x1 : Int) (x5 : Int) (s0 : Int) (s1 : Int) (s2 : Int) (σ : St) : Prop :=
 (0 ≤ x1 ∧ x1 < 40) ∧
 wp_X5_tryLetter s2 s1 s0 (w32 (x5 + (σ 18 (x1.toNat)))) σ (fun r14 σ15 =>
 Q 0 σ15)
def wp_X5_tryRule (x1 : Int) (x2 : Int) (σ : St) (Q : Int → St → Prop) : Prop :=
 (0 ≤ x2 ∧ x2 < 36) ∧
 ∀ v1 : Int, v1 = σ 26 (x2.toNat) →
 (0 ≤ x2 ∧ x2 < 36) ∧
 ∀ v2 : Int, v2 = σ 27 (x2.toNat) →
 (0 ≤ x1 ∧ x1 < 40) ∧
 (0 ≤ w32 ((w32 (x2 * 12)) + (σ 15 (x1.toNat))) ∧ w32 ((w32 (x2 * 12)) + (σ 15 (x1.toNat))) < 432) ∧
 ∀ v3 : Int, v3 = σ 81 ((w32 ((w32 (x2 * 12)) + (σ 15 (x1.toNat)))).toNat) →
 (0 ≤ x1 ∧ x1 < 40) ∧
 ∀ v4 : Int, v4 = σ 16 (x1.toNat) →
 (0 ≤ x1 ∧ x1 < 40) ∧
 ∀ v5 : Int, v5 = σ 17 (x1.toNat) →
 ((v3 ≠ (-1)) →
 ((v5 ≠ (-1)) →
 ((v2 ≤ w32 (v1 + 1)) →
 Q 0 σ) ∧
 (¬ (v2 ≤ w32 (v1 + 1)) →
 wp_X5_partCost v5 (w32 (v1 + 1)) v2 σ (fun r6 σ7 =>
 (0 ≤ x1 ∧ x1 < 40) ∧
 wp_X5_tryLetter v4 v1 r6 (w32 (v3 + (σ7 18 (x1.toNat)))) σ7 (fun r8 σ9 =>
 wp_X5_partCost v4 v1 (w32 (v2 - 1)) σ9 (fun r10 σ11 =>
 (0 ≤ x1 ∧ x1 < 40) ∧
 wp_X5_tryLetter v5 (w32 (v2 - 1)) r10 (w32 (v3 + (σ11 18 (x1.toNat)))) σ11 (fun r12 σ13 =>
 Q 0 σ13)))))) ∧
 (¬ (v5 ≠ (-1)) →
 ((v2 ≠ w32 (v1 + 1)) →
 wp_X5_tryRule_b94 Q x1 v3 ((-1)) v1 v4 σ) ∧
 (¬ (v2 ≠ w32 (v1 + 1)) →
 wp_X5_tryRule_b94 Q x1 v3 0 v1 v4 σ))) ∧
 (¬ (v3 ≠ (-1)) →
 Q 0 σ)
def wp_X5_prepare_b81 (Q : Int → St → Prop) (K39 : Int → St → Prop) (K52 : Int → Int → St → Prop) (x2 : Int) (x3 : Int) (σ : St) : Prop :=
 ∀ v15 : Int, v15 = w32 (x3 + 1) →
 K52 x2 v15 σ
def wp_X5_prepare_l52 (Q : Int → St → Prop) (K39 : Int → St → Prop) : Nat → Int → Int → St → Prop
  | 0, _, _, _ => False
  | n + 1, x2, x3, σ =>
    ((x3 ≥ σ 14 0) →
    ∀ v12 : Int, v12 = w32 (x2 + 1) →
    K39 v12 σ) ∧
    (¬ (x3 ≥ σ 14 0) →
    (0 ≤ x3 ∧ x3 < 40) ∧
    ((σ 20 (x3.toNat) ≠ 0) →
    wp_X5_prepare_b81 Q K39 (wp_X5_prepare_l52 Q K39 n) x2 x3 σ) ∧
    (¬ (σ 20 (x3.toNat) ≠ 0) →
    wp_X5_tryRule x3 x2 σ (fun r13 σ14 =>
    wp_X5_prepare_b81 Q K39 (wp_X5_prepare_l52 Q K39 n) x2 x3 σ14)))
def wp_X5_prepare_l39 (Q : Int → St → Prop) : Nat → Int → St → Prop
  | 0, _, _ => False
  | n + 1, x2, σ =>
    ((x2 ≥ σ 24 3) →
    wp_X5_choose σ (fun r10 σ11 =>
    Q 0 σ11)) ∧
    (¬ (x2 ≥ σ 24 3) →
    wp_X5_prepare_l52 Q (wp_X5_prepare_l39 Q n) bigN x2 0 σ)
def wp_X5_prepare (x1 : Int) (σ : St) (Q : Int → St → Prop) : Prop :=
 ((σ 80 9 = 0) →
 ∀ σ1 : St, σ1 = upS σ 80 9 1 →
 wp_J7_fill_53178_C_c82 ((-1)) σ1 (fun r2 σ3 =>
 ((x1 < 0) →
 wp_X5_choose σ3 (fun r4 σ5 =>
 Q 0 σ5)) ∧
 (¬ (x1 < 0) →
 wp_X1_prepare σ3 (fun r6 σ7 =>
 wp_X5_goDown x1 σ7 (fun r8 σ9 =>
 wp_X5_prepare_l39 Q bigN 0 σ9))))) ∧
 (¬ (σ 80 9 = 0) →
 Q 0 σ)
def wp_X11_mends (σ : St) (Q : Int → St → Prop) : Prop :=
 wp_X11_wholeItem σ (fun r1 σ2 =>
 wp_X5_prepare r1 σ2 (fun r3 σ4 =>
 Q (σ4 80 5) σ4))
def wp_X11_mend (x1 : Int) (σ : St) (Q : Int → St → Prop) : Prop :=
 ((x1 < 0) →
 Q ((-2)) σ) ∧
 (¬ (x1 < 0) →
 ((x1 ≤ 2) →
 wp_X11_wholeItem σ (fun r1 σ2 =>
 wp_X5_prepare r1 σ2 (fun r3 σ4 =>
 (x1 = 0 →
 Q (σ4 80 6) σ4) ∧
 (x1 = 1 →
 Q (σ4 80 7) σ4) ∧
 (¬ x1 = 0 ∧ ¬ x1 = 1 →
 Q (σ4 80 8) σ4)))) ∧
 (¬ (x1 ≤ 2) →
 Q ((-2)) σ))
def wp_X4_labelsOnRings_b70 (Q : Int → St → Prop) (K23 : Int → St → Prop) (x1 : Int) (σ : St) : Prop :=
 ∀ v6 : Int, v6 = w32 (x1 + 1) →
 K23 v6 σ
def wp_X4_labelsOnRings_b121 (Q : Int → St → Prop) (K78 : Int → St → Prop) (K86 : Int → Int → St → Prop) (x1 : Int) (x2 : Int) (σ : St) : Prop :=
 ∀ v11 : Int, v11 = w32 (x2 + 1) →
 K86 x1 v11 σ
def wp_X4_labelsOnRings_l86 (Q : Int → St → Prop) (K78 : Int → St → Prop) : Nat → Int → Int → St → Prop
  | 0, _, _, _ => False
  | n + 1, x1, x2, σ =>
    ((x2 ≥ 12) →
    ∀ v9 : Int, v9 = w32 (x1 + 1) →
    K78 v9 σ) ∧
    (¬ (x2 ≥ 12) →
    (0 ≤ x2 ∧ x2 < 12) ∧
    ((b_and (b_shr (σ 23 (x2.toNat)) x1) 1 ≠ 1) →
    wp_X4_labelsOnRings_b121 Q K78 (wp_X4_labelsOnRings_l86 Q K78 n) x1 x2 σ) ∧
    (¬ (b_and (b_shr (σ 23 (x2.toNat)) x1) 1 ≠ 1) →
    (0 ≤ x2 ∧ x2 < 12) ∧
    (0 ≤ x1 ∧ x1 < 12) ∧
    (0 ≤ x2 ∧ x2 < 12) ∧ ∀ σ10 : St, σ10 = upS σ 23 x2.toNat (b_or (σ 23 (x2.toNat)) (σ 23 (x1.toNat))) →
    wp_X4_labelsOnRings_b121 Q K78 (wp_X4_labelsOnRings_l86 Q K78 n) x1 x2 σ10))
def wp_X4_labelsOnRings_l137 (Q : Int → St → Prop) : Nat → Int → Int → St → Prop
  | 0, _, _, _ => False
  | n + 1, x1, x2, σ =>
    ((x2 ≥ 12) →
    Q x1 σ) ∧
    (¬ (x2 ≥ 12) →
    (0 ≤ x2 ∧ x2 < 12) ∧
    ∀ v7 : Int, v7 = b_or x1 (b_and (σ 23 (x2.toNat)) (b_shl 1 x2)) →
    ∀ v8 : Int, v8 = w32 (x2 + 1) →
    (wp_X4_labelsOnRings_l137 Q n) v7 v8 σ)
def wp_X4_labelsOnRings_l78 (Q : Int → St → Prop) : Nat → Int → St → Prop
  | 0, _, _ => False
  | n + 1, x1, σ =>
    ((x1 ≥ 12) →
    wp_X4_labelsOnRings_l137 Q bigN 0 0 σ) ∧
    (¬ (x1 ≥ 12) →
    wp_X4_labelsOnRings_l86 Q (wp_X4_labelsOnRings_l78 Q n) bigN x1 0 σ)
def wp_X4_labelsOnRings_l23 (Q : Int → St → Prop) : Nat → Int → St → Prop
  | 0, _, _ => False
  | n + 1, x1, σ =>
    ((x1 ≥ σ 14 0) →
    wp_X4_labelsOnRings_l78 Q bigN 0 σ) ∧
    (¬ (x1 ≥ σ 14 0) →
    (0 ≤ x1 ∧ x1 < 40) ∧
    ((σ 20 (x1.toNat) ≠ 0) →
    wp_X4_labelsOnRings_b70 Q (wp_X4_labelsOnRings_l23 Q n) x1 σ) ∧
    (¬ (σ 20 (x1.toNat) ≠ 0) →
    wp_X4_isUnary x1 σ (fun r3 σ4 =>
    ((r3 = 0) →
    wp_X4_labelsOnRings_b70 Q (wp_X4_labelsOnRings_l23 Q n) x1 σ4) ∧
    (¬ (r3 = 0) →
    (0 ≤ x1 ∧ x1 < 40) ∧
    (0 ≤ σ4 15 (x1.toNat) ∧ σ4 15 (x1.toNat) < 12) ∧
    (0 ≤ x1 ∧ x1 < 40) ∧
    (0 ≤ σ4 15 (x1.toNat) ∧ σ4 15 (x1.toNat) < 12) ∧ ∀ σ5 : St, σ5 = upS σ4 23 (σ4 15 (x1.toNat)).toNat (b_or (σ4 23 ((σ4 15 (x1.toNat)).toNat)) (b_shl 1 (σ4 16 (x1.toNat)))) →
    wp_X4_labelsOnRings_b70 Q (wp_X4_labelsOnRings_l23 Q n) x1 σ5))))
def wp_X4_labelsOnRings_l2 (Q : Int → St → Prop) : Nat → Int → St → Prop
  | 0, _, _ => False
  | n + 1, x1, σ =>
    ((x1 ≥ 12) →
    wp_X4_labelsOnRings_l23 Q bigN 0 σ) ∧
    (¬ (x1 ≥ 12) →
    (0 ≤ x1 ∧ x1 < 12) ∧ ∀ σ1 : St, σ1 = upS σ 23 x1.toNat 0 →
    ∀ v2 : Int, v2 = w32 (x1 + 1) →
    (wp_X4_labelsOnRings_l2 Q n) v2 σ1)
def wp_X4_labelsOnRings (σ : St) (Q : Int → St → Prop) : Prop :=
 wp_X4_labelsOnRings_l2 Q bigN 0 σ
def wp_X11_rings (σ : St) (Q : Int → St → Prop) : Prop :=
 wp_X4_labelsOnRings σ (fun r1 σ2 =>
 Q r1 σ2)
def wp_X4_labelBit_b16 (Q : Int → St → Prop) (σ : St) : Prop :=
 Q 0 σ
def wp_X4_labelBit (x0 : Int) (σ : St) (Q : Int → St → Prop) : Prop :=
 ((x0 < 0) →
 wp_X4_labelBit_b16 Q σ) ∧
 (¬ (x0 < 0) →
 ((x0 ≥ 100) →
 wp_X4_labelBit_b16 Q σ) ∧
 (¬ (x0 ≥ 100) →
 Q (b_shl 1 x0) σ))
def wp_X4_partsWithin (x1 : Int) (x2 : Int) (σ : St) (Q : Int → St → Prop) : Prop :=
 (0 ≤ x1 ∧ x1 < 40) ∧
 wp_X4_labelBit (σ 16 (x1.toNat)) σ (fun r1 σ2 =>
 (0 ≤ x1 ∧ x1 < 40) ∧
 wp_X4_labelBit (σ2 17 (x1.toNat)) σ2 (fun r3 σ4 =>
 ∀ v5 : Int, v5 = b_or r1 r3 →
 ((b_and v5 x2 ≠ v5) →
 Q 0 σ4) ∧
 (¬ (b_and v5 x2 ≠ v5) →
 Q 1 σ4)))
def wp_X4_fruitfulLabels_b49 (Q : Int → St → Prop) (K4 : Int → Int → St → Prop) (K12 : Int → Int → Int → St → Prop) (x1 : Int) (x2 : Int) (x3 : Int) (σ : St) : Prop :=
 ∀ v5 : Int, v5 = w32 (x3 + 1) →
 K12 x1 x2 v5 σ
def wp_X4_fruitfulLabels_l12 (Q : Int → St → Prop) (K4 : Int → Int → St → Prop) : Nat → Int → Int → Int → St → Prop
  | 0, _, _, _, _ => False
  | n + 1, x1, x2, x3, σ =>
    ((x3 ≥ σ 14 0) →
    ∀ v1 : Int, v1 = w32 (x2 + 1) →
    K4 x1 v1 σ) ∧
    (¬ (x3 ≥ σ 14 0) →
    (0 ≤ x3 ∧ x3 < 40) ∧
    ((σ 20 (x3.toNat) ≠ 0) →
    wp_X4_fruitfulLabels_b49 Q K4 (wp_X4_fruitfulLabels_l12 Q K4 n) x1 x2 x3 σ) ∧
    (¬ (σ 20 (x3.toNat) ≠ 0) →
    wp_X4_partsWithin x3 x1 σ (fun r2 σ3 =>
    ((r2 = 0) →
    wp_X4_fruitfulLabels_b49 Q K4 (wp_X4_fruitfulLabels_l12 Q K4 n) x1 x2 x3 σ3) ∧
    (¬ (r2 = 0) →
    (0 ≤ x3 ∧ x3 < 40) ∧
    ∀ v4 : Int, v4 = b_or x1 (b_shl 1 (σ3 15 (x3.toNat))) →
    wp_X4_fruitfulLabels_b49 Q K4 (wp_X4_fruitfulLabels_l12 Q K4 n) v4 x2 x3 σ3))))
def wp_X4_fruitfulLabels_l4 (Q : Int → St → Prop) : Nat → Int → Int → St → Prop
  | 0, _, _, _ => False
  | n + 1, x1, x2, σ =>
    ((x2 > 12) →
    Q x1 σ) ∧
    (¬ (x2 > 12) →
    wp_X4_fruitfulLabels_l12 Q (wp_X4_fruitfulLabels_l4 Q n) bigN x1 x2 0 σ)
def wp_X4_fruitfulLabels (σ : St) (Q : Int → St → Prop) : Prop :=
 wp_X4_fruitfulLabels_l4 Q bigN 0 0 σ
def wp_X4_rulesAlive_b111 (Q : Int → St → Prop) (K26 : Int → Int → Int → Int → St → Prop) (K36 : Int → Int → Int → Int → Int → St → Prop) (x1 : Int) (x2 : Int) (x3 : Int) (x5 : Int) (x6 : Int) (σ : St) : Prop :=
 ∀ v15 : Int, v15 = w32 (x6 + 1) →
 K36 x1 x2 x3 x5 v15 σ
def wp_X4_rulesAlive_l36 (Q : Int → St → Prop) (K26 : Int → Int → Int → Int → St → Prop) : Nat → Int → Int → Int → Int → Int → St → Prop
  | 0, _, _, _, _, _, _ => False
  | n + 1, x1, x2, x3, x5, x6, σ =>
    ((x6 ≥ σ 14 0) →
    ∀ v6 : Int, v6 = w32 (x5 + 1) →
    K26 x1 x2 x3 v6 σ) ∧
    (¬ (x6 ≥ σ 14 0) →
    (0 ≤ x6 ∧ x6 < 40) ∧
    ((σ 20 (x6.toNat) ≠ 0) →
    wp_X4_rulesAlive_b111 Q K26 (wp_X4_rulesAlive_l36 Q K26 n) x1 x2 x3 x5 x6 σ) ∧
    (¬ (σ 20 (x6.toNat) ≠ 0) →
    (0 ≤ x6 ∧ x6 < 40) ∧
    ((b_and (b_shr x2 (σ 15 (x6.toNat))) 1 ≠ 1) →
    wp_X4_rulesAlive_b111 Q K26 (wp_X4_rulesAlive_l36 Q K26 n) x1 x2 x3 x5 x6 σ) ∧
    (¬ (b_and (b_shr x2 (σ 15 (x6.toNat))) 1 ≠ 1) →
    wp_X4_partsWithin x6 x1 σ (fun r7 σ8 =>
    ((r7 = 0) →
    wp_X4_rulesAlive_b111 Q K26 (wp_X4_rulesAlive_l36 Q K26 n) x1 x2 x3 x5 x6 σ8) ∧
    (¬ (r7 = 0) →
    ∀ v9 : Int, v9 = l_or x3 (l_shl 1 x6) →
    (0 ≤ x6 ∧ x6 < 40) ∧
    wp_X4_labelBit (σ8 16 (x6.toNat)) σ8 (fun r10 σ11 =>
    (0 ≤ x6 ∧ x6 < 40) ∧
    wp_X4_labelBit (σ11 17 (x6.toNat)) σ11 (fun r12 σ13 =>
    ∀ v14 : Int, v14 = b_or x2 (b_or r10 r12) →
    wp_X4_rulesAlive_b111 Q K26 (wp_X4_rulesAlive_l36 Q K26 n) x1 v14 v9 x5 x6 σ13)))))))
def wp_X4_rulesAlive_l26 (Q : Int → St → Prop) : Nat → Int → Int → Int → Int → St → Prop
  | 0, _, _, _, _, _ => False
  | n + 1, x1, x2, x3, x5, σ =>
    ((x5 > 12) →
    Q x3 σ) ∧
    (¬ (x5 > 12) →
    wp_X4_rulesAlive_l36 Q (wp_X4_rulesAlive_l26 Q n) bigN x1 x2 x3 x5 0 σ)
def wp_X4_rulesAlive (σ : St) (Q : Int → St → Prop) : Prop :=
 ((σ 14 0 ≠ 0) →
 wp_X4_fruitfulLabels σ (fun r1 σ2 =>
 wp_X4_start σ2 (fun r3 σ4 =>
 ∀ v5 : Int, v5 = b_shl 1 r3 →
 wp_X4_rulesAlive_l26 Q bigN r1 v5 0 0 σ4))) ∧
 (¬ (σ 14 0 ≠ 0) →
 Q 0 σ)
def wp_X11_alive (σ : St) (Q : Int → St → Prop) : Prop :=
 wp_X4_rulesAlive σ (fun r1 σ2 =>
 Q r1 σ2)
