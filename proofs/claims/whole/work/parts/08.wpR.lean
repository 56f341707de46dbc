def wp_X12_feed_l55 (Q : Int → St → Prop) : Nat → Int → St → Prop
  | 0, _, _ => False
  | n + 1, x6, σ =>
    ((x6 ≥ 20) →
    ∀ σ6 : St, σ6 = upS σ 0 17 (w32 ((σ 0 17) + 20)) →
    Q (σ6 0 17) σ6) ∧
    (¬ (x6 ≥ 20) →
    (0 ≤ b_div x6 4 ∧ b_div x6 4 < 5) ∧
    (0 ≤ w32 ((σ 0 17) + x6) ∧ w32 ((σ 0 17) + x6) < 1000) ∧ ∀ σ7 : St, σ7 = upS σ 12 (w32 ((σ 0 17) + x6)).toNat (b_byte (b_byte (b_shr (σ 13 ((b_div x6 4).toNat)) (w32 (24 - (w32 (8 * (b_rem x6 4)))))))) →
    ∀ v8 : Int, v8 = w32 (x6 + 1) →
    (wp_X12_feed_l55 Q n) v8 σ7)
def wp_X12_feed (x1 : Int) (x2 : Int) (x3 : Int) (x4 : Int) (x5 : Int) (σ : St) (Q : Int → St → Prop) : Prop :=
 ((w32 ((σ 0 17) + 20) ≤ 1000) →
 ∀ σ1 : St, σ1 = upS σ 13 (Int.toNat 0) x1 →
 ∀ σ2 : St, σ2 = upS σ1 13 (Int.toNat 1) x2 →
 ∀ σ3 : St, σ3 = upS σ2 13 (Int.toNat 2) x3 →
 ∀ σ4 : St, σ4 = upS σ3 13 (Int.toNat 3) x4 →
 ∀ σ5 : St, σ5 = upS σ4 13 (Int.toNat 4) x5 →
 wp_X12_feed_l55 Q bigN 0 σ5) ∧
 (¬ (w32 ((σ 0 17) + 20) ≤ 1000) →
 Q ((-1)) σ)
def wp_X12_in_b17 (Q : Int → St → Prop) (σ : St) : Prop :=
 Q 0 σ
def wp_X12_in (x0 : Int) (x2 : Int) (x4 : Int) (σ : St) (Q : Int → St → Prop) : Prop :=
 ((x0 < x2) →
 wp_X12_in_b17 Q σ) ∧
 (¬ (x0 < x2) →
 ((x0 > x4) →
 wp_X12_in_b17 Q σ) ∧
 (¬ (x0 > x4) →
 Q 1 σ))
def wp_X12_end (x1 : Int) (σ : St) (Q : Int → St → Prop) : Prop :=
 wp_X12_in x1 0 (σ 0 17) σ (fun r1 σ2 =>
 ((r1 ≠ 0) →
 ∀ σ3 : St, σ3 = upS σ2 0 17 x1 →
 Q x1 σ3) ∧
 (¬ (r1 ≠ 0) →
 Q ((-1)) σ2))
def wp_X12_see (x1 : Int) (σ : St) (Q : Int → St → Prop) : Prop :=
 ((x1 ≥ σ 0 19) →
 Q ((-1)) σ) ∧
 (¬ (x1 ≥ σ 0 19) →
 (0 ≤ x1 ∧ x1 < 1000) ∧
 Q (b_and (σ 12 (x1.toNat)) 255) σ)
def wp_X12_advance_b26 (Q : Int → St → Prop) (K0 : St → Prop) (σ : St) : Prop :=
 ∀ σ17 : St, σ17 = upS σ 0 20 (w32 ((σ 0 20) + 1)) →
 K0 σ17
def wp_X12_advance_l83 (Q : Int → St → Prop) : Nat → St → Prop
  | 0, _ => False
  | n + 1, σ =>
    wp_X12_see (σ 0 20) σ (fun r30 σ31 =>
    wp_X12_in r30 97 122 σ31 (fun r32 σ33 =>
    ((r32 = 0) →
    ∀ σ34 : St, σ34 = upS σ33 0 22 1 →
    Q 0 σ34) ∧
    (¬ (r32 = 0) →
    ∀ σ35 : St, σ35 = upS σ33 0 20 (w32 ((σ33 0 20) + 1)) →
    (wp_X12_advance_l83 Q n) σ35)))
def wp_X12_advance_l144 (Q : Int → St → Prop) : Nat → St → Prop
  | 0, _ => False
  | n + 1, σ =>
    wp_X12_see (σ 0 20) σ (fun r21 σ22 =>
    wp_X12_in r21 48 57 σ22 (fun r23 σ24 =>
    ((r23 = 0) →
    ∀ σ25 : St, σ25 = upS σ24 0 22 2 →
    Q 0 σ25) ∧
    (¬ (r23 = 0) →
    wp_X12_see (σ24 0 20) σ24 (fun r26 σ27 =>
    ∀ σ28 : St, σ28 = upS σ27 0 23 (min 9999 (w32 ((w32 ((w32 (10 * (σ24 0 23))) + r26)) - 48))) →
    ∀ σ29 : St, σ29 = upS σ28 0 20 (w32 ((σ28 0 20) + 1)) →
    (wp_X12_advance_l144 Q n) σ29))))
def wp_X12_advance_b287 (Q : Int → St → Prop) (s0 : Int) (σ : St) : Prop :=
 ∀ σ36 : St, σ36 = upS σ 0 22 s0 →
 Q 0 σ36
def wp_X12_advance_b282 (Q : Int → St → Prop) (σ : St) : Prop :=
 wp_X12_advance_b287 Q 4 σ
def wp_X12_advance_b248 (Q : Int → St → Prop) (x1 : Int) (s0 : Int) (σ : St) : Prop :=
 ∀ σ18 : St, σ18 = upS σ 0 23 s0 →
 wp_X12_in x1 65 76 σ18 (fun r19 σ20 =>
 ((r19 = 0) →
 ((x1 = 61) →
 wp_X12_advance_b282 Q σ20) ∧
 (¬ (x1 = 61) →
 ((x1 ≠ 59) →
 wp_X12_advance_b287 Q 5 σ20) ∧
 (¬ (x1 ≠ 59) →
 wp_X12_advance_b282 Q σ20))) ∧
 (¬ (r19 = 0) →
 wp_X12_advance_b287 Q 3 σ20))
def wp_X12_advance_l0 (Q : Int → St → Prop) : Nat → St → Prop
  | 0, _ => False
  | n + 1, σ =>
    wp_X12_see (σ 0 20) σ (fun r1 σ2 =>
    ((r1 = 32) →
    wp_X12_advance_b26 Q (wp_X12_advance_l0 Q n) σ2) ∧
    (¬ (r1 = 32) →
    wp_X12_see (σ2 0 20) σ2 (fun r3 σ4 =>
    ((r3 ≠ 10) →
    ∀ σ5 : St, σ5 = upS σ4 0 21 (σ4 0 20) →
    wp_X12_see (σ5 0 20) σ5 (fun r6 σ7 =>
    ((r6 ≠ (-1)) →
    wp_X12_in r6 97 122 σ7 (fun r8 σ9 =>
    ((r8 = 0) →
    wp_X12_in r6 48 57 σ9 (fun r10 σ11 =>
    ((r10 = 0) →
    ∀ σ12 : St, σ12 = upS σ11 0 20 (w32 ((σ11 0 20) + 1)) →
    wp_X12_in r6 65 76 σ12 (fun r13 σ14 =>
    ((r13 = 0) →
    wp_X12_advance_b248 Q r6 r6 σ14) ∧
    (¬ (r13 = 0) →
    wp_X12_advance_b248 Q r6 (w32 (r6 - 65)) σ14))) ∧
    (¬ (r10 = 0) →
    ∀ σ15 : St, σ15 = upS σ11 0 23 0 →
    wp_X12_advance_l144 Q bigN σ15))) ∧
    (¬ (r8 = 0) →
    wp_X12_advance_l83 Q bigN σ9))) ∧
    (¬ (r6 ≠ (-1)) →
    ∀ σ16 : St, σ16 = upS σ7 0 22 0 →
    Q 0 σ16))) ∧
    (¬ (r3 ≠ 10) →
    wp_X12_advance_b26 Q (wp_X12_advance_l0 Q n) σ4))))
def wp_X12_advance (σ : St) (Q : Int → St → Prop) : Prop :=
 wp_X12_advance_l0 Q bigN σ
def wp_X12_good (σ : St) (Q : Int → St → Prop) : Prop :=
 ((σ 0 24 ≠ 0) →
 Q 0 σ) ∧
 (¬ (σ 0 24 ≠ 0) →
 Q 1 σ)
def wp_X12_is_s8_b75 (Q : Int → St → Prop) (K39 : Int → Int → St → Prop) (x3 : Int) (s0 : Int) (σ : St) : Prop :=
 ∀ v3 : Int, v3 = w32 (x3 + 1) →
 K39 s0 v3 σ
def wp_X12_is_s8_l39 (Q : Int → St → Prop) : Nat → Int → Int → St → Prop
  | 0, _, _, _ => False
  | n + 1, x2, x3, σ =>
    ((x3 ≥ 5) →
    (x2 = 0 ∨ x2 = 1) ∧ Q x2 σ) ∧
    (¬ (x3 ≥ 5) →
    ((x2 = 0) →
    (x2 = 0 ∨ x2 = 1) ∧ Q x2 σ) ∧
    (¬ (x2 = 0) →
    (0 ≤ w32 ((σ 0 21) + x3) ∧ w32 ((σ 0 21) + x3) < 1000) ∧
    (0 ≤ x3 ∧ x3 < 5) ∧
    ((σ 12 ((w32 ((σ 0 21) + x3)).toNat) ≠ (strO 8).2.2.2.getD x3.toNat 0) →
    wp_X12_is_s8_b75 Q (wp_X12_is_s8_l39 Q n) x3 0 σ) ∧
    (¬ (σ 12 ((w32 ((σ 0 21) + x3)).toNat) ≠ (strO 8).2.2.2.getD x3.toNat 0) →
    wp_X12_is_s8_b75 Q (wp_X12_is_s8_l39 Q n) x3 1 σ)))
def wp_X12_is_s8_b36 (Q : Int → St → Prop) (s0 : Int) (σ : St) : Prop :=
 wp_X12_is_s8_l39 Q bigN s0 0 σ
def wp_X12_is_s8_b35 (Q : Int → St → Prop) (σ : St) : Prop :=
 wp_X12_is_s8_b36 Q 0 σ
def wp_X12_is_s8 (σ : St) (Q : Int → St → Prop) : Prop :=
 wp_X12_good σ (fun r1 σ2 =>
 ((r1 = 0) →
 wp_X12_is_s8_b35 Q σ2) ∧
 (¬ (r1 = 0) →
 ((σ2 0 22 ≠ 1) →
 wp_X12_is_s8_b35 Q σ2) ∧
 (¬ (σ2 0 22 ≠ 1) →
 ((w32 ((σ2 0 20) - (σ2 0 21)) ≠ 5) →
 wp_X12_is_s8_b35 Q σ2) ∧
 (¬ (w32 ((σ2 0 20) - (σ2 0 21)) ≠ 5) →
 wp_X12_is_s8_b36 Q 1 σ2))))
def wp_X12_errs (x1 : Int) (σ : St) (Q : Int → St → Prop) : Prop :=
 wp_X12_good σ (fun r1 σ2 =>
 ((r1 ≠ 0) →
 ∀ σ3 : St, σ3 = upS σ2 0 24 x1 →
 ∀ σ4 : St, σ4 = upS σ3 0 25 (σ3 0 21) →
 Q 0 σ4) ∧
 (¬ (r1 ≠ 0) →
 Q 0 σ2))
def wp_X12_takes_b47 (Q : Int → St → Prop) (x1 : Int) (σ : St) : Prop :=
 wp_X12_good σ (fun r11 σ12 =>
 ((r11 ≠ 0) →
 ∀ v13 : Int, v13 = σ12 0 23 →
 wp_X12_advance σ12 (fun r14 σ15 =>
 Q v13 σ15)) ∧
 (¬ (r11 ≠ 0) →
 Q x1 σ12))
def wp_X12_takes_b20 (Q : Int → St → Prop) (x1 : Int) (x2 : Int) (σ : St) : Prop :=
 wp_X12_good σ (fun r5 σ6 =>
 ((r5 = 0) →
 wp_X12_takes_b47 Q x1 σ6) ∧
 (¬ (r5 = 0) →
 wp_X12_in (σ6 0 23) x1 x2 σ6 (fun r7 σ8 =>
 ((r7 ≠ 0) →
 wp_X12_takes_b47 Q x1 σ8) ∧
 (¬ (r7 ≠ 0) →
 wp_X12_errs 2 σ8 (fun r9 σ10 =>
 wp_X12_takes_b47 Q x1 σ10)))))
def wp_X12_takes (x1 : Int) (x2 : Int) (σ : St) (Q : Int → St → Prop) : Prop :=
 wp_X12_good σ (fun r1 σ2 =>
 ((r1 = 0) →
 wp_X12_takes_b20 Q x1 x2 σ2) ∧
 (¬ (r1 = 0) →
 ((σ2 0 22 = 2) →
 wp_X12_takes_b20 Q x1 x2 σ2) ∧
 (¬ (σ2 0 22 = 2) →
 wp_X12_errs 1 σ2 (fun r3 σ4 =>
 wp_X12_takes_b20 Q x1 x2 σ4))))
def wp_X12_is_s9_b75 (Q : Int → St → Prop) (K39 : Int → Int → St → Prop) (x3 : Int) (s0 : Int) (σ : St) : Prop :=
 ∀ v3 : Int, v3 = w32 (x3 + 1) →
 K39 s0 v3 σ
def wp_X12_is_s9_l39 (Q : Int → St → Prop) : Nat → Int → Int → St → Prop
  | 0, _, _, _ => False
  | n + 1, x2, x3, σ =>
    ((x3 ≥ 4) →
    (x2 = 0 ∨ x2 = 1) ∧ Q x2 σ) ∧
    (¬ (x3 ≥ 4) →
    ((x2 = 0) →
    (x2 = 0 ∨ x2 = 1) ∧ Q x2 σ) ∧
    (¬ (x2 = 0) →
    (0 ≤ w32 ((σ 0 21) + x3) ∧ w32 ((σ 0 21) + x3) < 1000) ∧
    (0 ≤ x3 ∧ x3 < 4) ∧
    ((σ 12 ((w32 ((σ 0 21) + x3)).toNat) ≠ (strO 9).2.2.2.getD x3.toNat 0) →
    wp_X12_is_s9_b75 Q (wp_X12_is_s9_l39 Q n) x3 0 σ) ∧
    (¬ (σ 12 ((w32 ((σ 0 21) + x3)).toNat) ≠ (strO 9).2.2.2.getD x3.toNat 0) →
    wp_X12_is_s9_b75 Q (wp_X12_is_s9_l39 Q n) x3 1 σ)))
def wp_X12_is_s9_b36 (Q : Int → St → Prop) (s0 : Int) (σ : St) : Prop :=
 wp_X12_is_s9_l39 Q bigN s0 0 σ
def wp_X12_is_s9_b35 (Q : Int → St → Prop) (σ : St) : Prop :=
 wp_X12_is_s9_b36 Q 0 σ
def wp_X12_is_s9 (σ : St) (Q : Int → St → Prop) : Prop :=
 wp_X12_good σ (fun r1 σ2 =>
 ((r1 = 0) →
 wp_X12_is_s9_b35 Q σ2) ∧
 (¬ (r1 = 0) →
 ((σ2 0 22 ≠ 1) →
 wp_X12_is_s9_b35 Q σ2) ∧
 (¬ (σ2 0 22 ≠ 1) →
 ((w32 ((σ2 0 20) - (σ2 0 21)) ≠ 4) →
 wp_X12_is_s9_b35 Q σ2) ∧
 (¬ (w32 ((σ2 0 20) - (σ2 0 21)) ≠ 4) →
 wp_X12_is_s9_b36 Q 1 σ2))))
def wp_X12_takesWord_s9_b13 (Q : Int → St → Prop) (σ : St) : Prop :=
 wp_X12_good σ (fun r5 σ6 =>
 ((r5 = 0) →
 Q 0 σ6) ∧
 (¬ (r5 = 0) →
 wp_X12_advance σ6 (fun r7 σ8 =>
 Q 0 σ8)))
def wp_X12_takesWord_s9 (σ : St) (Q : Int → St → Prop) : Prop :=
 wp_X12_is_s9 σ (fun r1 σ2 =>
 ((r1 ≠ 0) →
 wp_X12_takesWord_s9_b13 Q σ2) ∧
 (¬ (r1 ≠ 0) →
 wp_X12_errs 1 σ2 (fun r3 σ4 =>
 wp_X12_takesWord_s9_b13 Q σ4)))
def wp_X12_is_s10_b75 (Q : Int → St → Prop) (K39 : Int → Int → St → Prop) (x3 : Int) (s0 : Int) (σ : St) : Prop :=
 ∀ v3 : Int, v3 = w32 (x3 + 1) →
 K39 s0 v3 σ
def wp_X12_is_s10_l39 (Q : Int → St → Prop) : Nat → Int → Int → St → Prop
  | 0, _, _, _ => False
  | n + 1, x2, x3, σ =>
    ((x3 ≥ 3) →
    (x2 = 0 ∨ x2 = 1) ∧ Q x2 σ) ∧
    (¬ (x3 ≥ 3) →
    ((x2 = 0) →
    (x2 = 0 ∨ x2 = 1) ∧ Q x2 σ) ∧
    (¬ (x2 = 0) →
    (0 ≤ w32 ((σ 0 21) + x3) ∧ w32 ((σ 0 21) + x3) < 1000) ∧
    (0 ≤ x3 ∧ x3 < 3) ∧
    ((σ 12 ((w32 ((σ 0 21) + x3)).toNat) ≠ (strO 10).2.2.2.getD x3.toNat 0) →
    wp_X12_is_s10_b75 Q (wp_X12_is_s10_l39 Q n) x3 0 σ) ∧
    (¬ (σ 12 ((w32 ((σ 0 21) + x3)).toNat) ≠ (strO 10).2.2.2.getD x3.toNat 0) →
    wp_X12_is_s10_b75 Q (wp_X12_is_s10_l39 Q n) x3 1 σ)))
def wp_X12_is_s10_b36 (Q : Int → St → Prop) (s0 : Int) (σ : St) : Prop :=
 wp_X12_is_s10_l39 Q bigN s0 0 σ
def wp_X12_is_s10_b35 (Q : Int → St → Prop) (σ : St) : Prop :=
 wp_X12_is_s10_b36 Q 0 σ
def wp_X12_is_s10 (σ : St) (Q : Int → St → Prop) : Prop :=
 wp_X12_good σ (fun r1 σ2 =>
 ((r1 = 0) →
 wp_X12_is_s10_b35 Q σ2) ∧
 (¬ (r1 = 0) →
 ((σ2 0 22 ≠ 1) →
 wp_X12_is_s10_b35 Q σ2) ∧
 (¬ (σ2 0 22 ≠ 1) →
 ((w32 ((σ2 0 20) - (σ2 0 21)) ≠ 3) →
 wp_X12_is_s10_b35 Q σ2) ∧
 (¬ (w32 ((σ2 0 20) - (σ2 0 21)) ≠ 3) →
 wp_X12_is_s10_b36 Q 1 σ2))))
def wp_X12_takesWord_s10_b13 (Q : Int → St → Prop) (σ : St) : Prop :=
 wp_X12_good σ (fun r5 σ6 =>
 ((r5 = 0) →
 Q 0 σ6) ∧
 (¬ (r5 = 0) →
 wp_X12_advance σ6 (fun r7 σ8 =>
 Q 0 σ8)))
def wp_X12_takesWord_s10 (σ : St) (Q : Int → St → Prop) : Prop :=
 wp_X12_is_s10 σ (fun r1 σ2 =>
 ((r1 ≠ 0) →
 wp_X12_takesWord_s10_b13 Q σ2) ∧
 (¬ (r1 ≠ 0) →
 wp_X12_errs 1 σ2 (fun r3 σ4 =>
 wp_X12_takesWord_s10_b13 Q σ4)))
def wp_X12_is_s11_b75 (Q : Int → St → Prop) (K39 : Int → Int → St → Prop) (x3 : Int) (s0 : Int) (σ : St) : Prop :=
 ∀ v3 : Int, v3 = w32 (x3 + 1) →
 K39 s0 v3 σ
def wp_X12_is_s11_l39 (Q : Int → St → Prop) : Nat → Int → Int → St → Prop
  | 0, _, _, _ => False
  | n + 1, x2, x3, σ =>
    ((x3 ≥ 4) →
    (x2 = 0 ∨ x2 = 1) ∧ Q x2 σ) ∧
    (¬ (x3 ≥ 4) →
    ((x2 = 0) →
    (x2 = 0 ∨ x2 = 1) ∧ Q x2 σ) ∧
    (¬ (x2 = 0) →
    (0 ≤ w32 ((σ 0 21) + x3) ∧ w32 ((σ 0 21) + x3) < 1000) ∧
    (0 ≤ x3 ∧ x3 < 4) ∧
    ((σ 12 ((w32 ((σ 0 21) + x3)).toNat) ≠ (strO 11).2.2.2.getD x3.toNat 0) →
    wp_X12_is_s11_b75 Q (wp_X12_is_s11_l39 Q n) x3 0 σ) ∧
    (¬ (σ 12 ((w32 ((σ 0 21) + x3)).toNat) ≠ (strO 11).2.2.2.getD x3.toNat 0) →
    wp_X12_is_s11_b75 Q (wp_X12_is_s11_l39 Q n) x3 1 σ)))
def wp_X12_is_s11_b36 (Q : Int → St → Prop) (s0 : Int) (σ : St) : Prop :=
 wp_X12_is_s11_l39 Q bigN s0 0 σ
def wp_X12_is_s11_b35 (Q : Int → St → Prop) (σ : St) : Prop :=
 wp_X12_is_s11_b36 Q 0 σ
def wp_X12_is_s11 (σ : St) (Q : Int → St → Prop) : Prop :=
 wp_X12_good σ (fun r1 σ2 =>
 ((r1 = 0) →
 wp_X12_is_s11_b35 Q σ2) ∧
 (¬ (r1 = 0) →
 ((σ2 0 22 ≠ 1) →
 wp_X12_is_s11_b35 Q σ2) ∧
 (¬ (σ2 0 22 ≠ 1) →
 ((w32 ((σ2 0 20) - (σ2 0 21)) ≠ 4) →
 wp_X12_is_s11_b35 Q σ2) ∧
 (¬ (w32 ((σ2 0 20) - (σ2 0 21)) ≠ 4) →
 wp_X12_is_s11_b36 Q 1 σ2))))
def wp_X12_takesWord_s11_b13 (Q : Int → St → Prop) (σ : St) : Prop :=
 wp_X12_good σ (fun r5 σ6 =>
 ((r5 = 0) →
 Q 0 σ6) ∧
 (¬ (r5 = 0) →
 wp_X12_advance σ6 (fun r7 σ8 =>
 Q 0 σ8)))
def wp_X12_takesWord_s11 (σ : St) (Q : Int → St → Prop) : Prop :=
 wp_X12_is_s11 σ (fun r1 σ2 =>
 ((r1 ≠ 0) →
 wp_X12_takesWord_s11_b13 Q σ2) ∧
 (¬ (r1 ≠ 0) →
 wp_X12_errs 1 σ2 (fun r3 σ4 =>
 wp_X12_takesWord_s11_b13 Q σ4)))
def wp_X12_is_s12_b75 (Q : Int → St → Prop) (K39 : Int → Int → St → Prop) (x3 : Int) (s0 : Int) (σ : St) : Prop :=
 ∀ v3 : Int, v3 = w32 (x3 + 1) →
 K39 s0 v3 σ
def wp_X12_is_s12_l39 (Q : Int → St → Prop) : Nat → Int → Int → St → Prop
  | 0, _, _, _ => False
  | n + 1, x2, x3, σ =>
    ((x3 ≥ 5) →
    (x2 = 0 ∨ x2 = 1) ∧ Q x2 σ) ∧
    (¬ (x3 ≥ 5) →
    ((x2 = 0) →
    (x2 = 0 ∨ x2 = 1) ∧ Q x2 σ) ∧
    (¬ (x2 = 0) →
    (0 ≤ w32 ((σ 0 21) + x3) ∧ w32 ((σ 0 21) + x3) < 1000) ∧
    (0 ≤ x3 ∧ x3 < 5) ∧
    ((σ 12 ((w32 ((σ 0 21) + x3)).toNat) ≠ (strO 12).2.2.2.getD x3.toNat 0) →
    wp_X12_is_s12_b75 Q (wp_X12_is_s12_l39 Q n) x3 0 σ) ∧
    (¬ (σ 12 ((w32 ((σ 0 21) + x3)).toNat) ≠ (strO 12).2.2.2.getD x3.toNat 0) →
    wp_X12_is_s12_b75 Q (wp_X12_is_s12_l39 Q n) x3 1 σ)))
def wp_X12_is_s12_b36 (Q : Int → St → Prop) (s0 : Int) (σ : St) : Prop :=
 wp_X12_is_s12_l39 Q bigN s0 0 σ
def wp_X12_is_s12_b35 (Q : Int → St → Prop) (σ : St) : Prop :=
 wp_X12_is_s12_b36 Q 0 σ
def wp_X12_is_s12 (σ : St) (Q : Int → St → Prop) : Prop :=
 wp_X12_good σ (fun r1 σ2 =>
 ((r1 = 0) →
 wp_X12_is_s12_b35 Q σ2) ∧
 (¬ (r1 = 0) →
 ((σ2 0 22 ≠ 1) →
 wp_X12_is_s12_b35 Q σ2) ∧
 (¬ (σ2 0 22 ≠ 1) →
 ((w32 ((σ2 0 20) - (σ2 0 21)) ≠ 5) →
 wp_X12_is_s12_b35 Q σ2) ∧
 (¬ (w32 ((σ2 0 20) - (σ2 0 21)) ≠ 5) →
 wp_X12_is_s12_b36 Q 1 σ2))))
def wp_X12_takesWord_s12_b13 (Q : Int → St → Prop) (σ : St) : Prop :=
 wp_X12_good σ (fun r5 σ6 =>
 ((r5 = 0) →
 Q 0 σ6) ∧
 (¬ (r5 = 0) →
 wp_X12_advance σ6 (fun r7 σ8 =>
 Q 0 σ8)))
def wp_X12_takesWord_s12 (σ : St) (Q : Int → St → Prop) : Prop :=
 wp_X12_is_s12 σ (fun r1 σ2 =>
 ((r1 ≠ 0) →
 wp_X12_takesWord_s12_b13 Q σ2) ∧
 (¬ (r1 ≠ 0) →
 wp_X12_errs 1 σ2 (fun r3 σ4 =>
 wp_X12_takesWord_s12_b13 Q σ4)))
def wp_X12_readTable_l127 (Q : Int → St → Prop) : Nat → Int → St → Prop
  | 0, _, _ => False
  | n + 1, x1, σ =>
    ((x1 ≥ w32 ((σ 6 (Int.toNat 1)) * (σ 6 (Int.toNat 1)))) →
    Q 0 σ) ∧
    (¬ (x1 ≥ w32 ((σ 6 (Int.toNat 1)) * (σ 6 (Int.toNat 1)))) →
    wp_X12_takes 0 (w32 ((σ 6 (Int.toNat 1)) - 1)) σ (fun r24 σ25 =>
    (0 ≤ w32 (25 + x1) ∧ w32 (25 + x1) < 50) ∧ ∀ σ26 : St, σ26 = upS σ25 10 (w32 (25 + x1)).toNat r24 →
    ∀ v27 : Int, v27 = w32 (x1 + 1) →
    (wp_X12_readTable_l127 Q n) v27 σ26))
def wp_X12_readTable_l74 (Q : Int → St → Prop) : Nat → Int → St → Prop
  | 0, _, _ => False
  | n + 1, x1, σ =>
    ((x1 ≥ w32 ((σ 6 (Int.toNat 1)) * (σ 6 (Int.toNat 1)))) →
    wp_X12_takesWord_s12 σ (fun r18 σ19 =>
    wp_X12_readTable_l127 Q bigN 0 σ19)) ∧
    (¬ (x1 ≥ w32 ((σ 6 (Int.toNat 1)) * (σ 6 (Int.toNat 1)))) →
    wp_X12_takes 0 (w32 ((σ 6 (Int.toNat 1)) - 1)) σ (fun r20 σ21 =>
    (0 ≤ w32 (25 + x1) ∧ w32 (25 + x1) < 50) ∧ ∀ σ22 : St, σ22 = upS σ21 9 (w32 (25 + x1)).toNat r20 →
    ∀ v23 : Int, v23 = w32 (x1 + 1) →
    (wp_X12_readTable_l74 Q n) v23 σ22))
def wp_X12_readTable (σ : St) (Q : Int → St → Prop) : Prop :=
 wp_X12_advance σ (fun r1 σ2 =>
 wp_X12_takes 2 5 σ2 (fun r3 σ4 =>
 ∀ σ5 : St, σ5 = upS σ4 6 (Int.toNat 1) r3 →
 wp_X12_takesWord_s9 σ5 (fun r6 σ7 =>
 wp_X12_takes 0 (w32 ((σ7 6 (Int.toNat 1)) - 1)) σ7 (fun r8 σ9 =>
 ∀ σ10 : St, σ10 = upS σ9 7 (Int.toNat 1) r8 →
 wp_X12_takesWord_s10 σ10 (fun r11 σ12 =>
 wp_X12_takes 0 (w32 ((σ12 6 (Int.toNat 1)) - 1)) σ12 (fun r13 σ14 =>
 ∀ σ15 : St, σ15 = upS σ14 8 (Int.toNat 1) r13 →
 wp_X12_takesWord_s11 σ15 (fun r16 σ17 =>
 wp_X12_readTable_l74 Q bigN 0 σ17)))))))
def wp_X12_is_s13_b75 (Q : Int → St → Prop) (K39 : Int → Int → St → Prop) (x3 : Int) (s0 : Int) (σ : St) : Prop :=
 ∀ v3 : Int, v3 = w32 (x3 + 1) →
 K39 s0 v3 σ
def wp_X12_is_s13_l39 (Q : Int → St → Prop) : Nat → Int → Int → St → Prop
  | 0, _, _, _ => False
  | n + 1, x2, x3, σ =>
    ((x3 ≥ 4) →
    (x2 = 0 ∨ x2 = 1) ∧ Q x2 σ) ∧
    (¬ (x3 ≥ 4) →
    ((x2 = 0) →
    (x2 = 0 ∨ x2 = 1) ∧ Q x2 σ) ∧
    (¬ (x2 = 0) →
    (0 ≤ w32 ((σ 0 21) + x3) ∧ w32 ((σ 0 21) + x3) < 1000) ∧
    (0 ≤ x3 ∧ x3 < 4) ∧
    ((σ 12 ((w32 ((σ 0 21) + x3)).toNat) ≠ (strO 13).2.2.2.getD x3.toNat 0) →
    wp_X12_is_s13_b75 Q (wp_X12_is_s13_l39 Q n) x3 0 σ) ∧
    (¬ (σ 12 ((w32 ((σ 0 21) + x3)).toNat) ≠ (strO 13).2.2.2.getD x3.toNat 0) →
    wp_X12_is_s13_b75 Q (wp_X12_is_s13_l39 Q n) x3 1 σ)))
def wp_X12_is_s13_b36 (Q : Int → St → Prop) (s0 : Int) (σ : St) : Prop :=
 wp_X12_is_s13_l39 Q bigN s0 0 σ
def wp_X12_is_s13_b35 (Q : Int → St → Prop) (σ : St) : Prop :=
 wp_X12_is_s13_b36 Q 0 σ
def wp_X12_is_s13 (σ : St) (Q : Int → St → Prop) : Prop :=
 wp_X12_good σ (fun r1 σ2 =>
 ((r1 = 0) →
 wp_X12_is_s13_b35 Q σ2) ∧
 (¬ (r1 = 0) →
 ((σ2 0 22 ≠ 1) →
 wp_X12_is_s13_b35 Q σ2) ∧
 (¬ (σ2 0 22 ≠ 1) →
 ((w32 ((σ2 0 20) - (σ2 0 21)) ≠ 4) →
 wp_X12_is_s13_b35 Q σ2) ∧
 (¬ (w32 ((σ2 0 20) - (σ2 0 21)) ≠ 4) →
 wp_X12_is_s13_b36 Q 1 σ2))))
def wp_X12_takesSign_b21 (Q : Int → St → Prop) (σ : St) : Prop :=
 wp_X12_good σ (fun r3 σ4 =>
 ((r3 = 0) →
 Q 0 σ4) ∧
 (¬ (r3 = 0) →
 wp_X12_advance σ4 (fun r5 σ6 =>
 Q 0 σ6)))
def wp_X12_takesSign_b16 (Q : Int → St → Prop) (σ : St) : Prop :=
 wp_X12_errs 1 σ (fun r1 σ2 =>
 wp_X12_takesSign_b21 Q σ2)
def wp_X12_takesSign (x1 : Int) (σ : St) (Q : Int → St → Prop) : Prop :=
 ((σ 0 22 ≠ 4) →
 wp_X12_takesSign_b16 Q σ) ∧
 (¬ (σ 0 22 ≠ 4) →
 ((σ 0 23 = x1) →
 wp_X12_takesSign_b21 Q σ) ∧
 (¬ (σ 0 23 = x1) →
 wp_X12_takesSign_b16 Q σ))
def wp_X12_isPart_b36 (Q : Int → St → Prop) (σ : St) : Prop :=
 Q 1 σ
def wp_X12_isPart_b40 (Q : Int → St → Prop) (σ : St) : Prop :=
 Q 0 σ
def wp_X12_isPart (σ : St) (Q : Int → St → Prop) : Prop :=
 wp_X12_good σ (fun r1 σ2 =>
 ((r1 = 0) →
 wp_X12_isPart_b40 Q σ2) ∧
 (¬ (r1 = 0) →
 ((σ2 0 22 = 3) →
 wp_X12_isPart_b36 Q σ2) ∧
 (¬ (σ2 0 22 = 3) →
 ((σ2 0 22 ≠ 1) →
 wp_X12_isPart_b40 Q σ2) ∧
 (¬ (σ2 0 22 ≠ 1) →
 ((w32 ((σ2 0 20) - (σ2 0 21)) ≠ 1) →
 wp_X12_isPart_b40 Q σ2) ∧
 (¬ (w32 ((σ2 0 20) - (σ2 0 21)) ≠ 1) →
 wp_X12_isPart_b36 Q σ2)))))
def wp_X12_readPart_b51 (Q : Int → St → Prop) (s0 : Int) (σ : St) : Prop :=
 wp_X12_advance σ (fun r7 σ8 =>
 Q s0 σ8)
def wp_X12_readPart_b12 (Q : Int → St → Prop) (σ : St) : Prop :=
 wp_X12_good σ (fun r5 σ6 =>
 ((r5 ≠ 0) →
 ((σ6 0 22 ≠ 3) →
 (0 ≤ σ6 0 21 ∧ σ6 0 21 < 1000) ∧
 wp_X12_readPart_b51 Q (w32 ((w32 (100 + (σ6 12 ((σ6 0 21).toNat)))) - 97)) σ6) ∧
 (¬ (σ6 0 22 ≠ 3) →
 wp_X12_readPart_b51 Q (σ6 0 23) σ6)) ∧
 (¬ (r5 ≠ 0) →
 Q ((-1)) σ6))
def wp_X12_readPart (σ : St) (Q : Int → St → Prop) : Prop :=
 wp_X12_isPart σ (fun r1 σ2 =>
 ((r1 ≠ 0) →
 wp_X12_readPart_b12 Q σ2) ∧
 (¬ (r1 ≠ 0) →
 wp_X12_errs 1 σ2 (fun r3 σ4 =>
 wp_X12_readPart_b12 Q σ4)))
def wp_X12_is_s14_b75 (Q : Int → St → Prop) (K39 : Int → Int → St → Prop) (x3 : Int) (s0 : Int) (σ : St) : Prop :=
 ∀ v3 : Int, v3 = w32 (x3 + 1) →
 K39 s0 v3 σ
def wp_X12_is_s14_l39 (Q : Int → St → Prop) : Nat → Int → Int → St → Prop
  | 0, _, _, _ => False
  | n + 1, x2, x3, σ =>
    ((x3 ≥ 4) →
    (x2 = 0 ∨ x2 = 1) ∧ Q x2 σ) ∧
    (¬ (x3 ≥ 4) →
    ((x2 = 0) →
    (x2 = 0 ∨ x2 = 1) ∧ Q x2 σ) ∧
    (¬ (x2 = 0) →
    (0 ≤ w32 ((σ 0 21) + x3) ∧ w32 ((σ 0 21) + x3) < 1000) ∧
    (0 ≤ x3 ∧ x3 < 4) ∧
    ((σ 12 ((w32 ((σ 0 21) + x3)).toNat) ≠ (strO 14).2.2.2.getD x3.toNat 0) →
    wp_X12_is_s14_b75 Q (wp_X12_is_s14_l39 Q n) x3 0 σ) ∧
    (¬ (σ 12 ((w32 ((σ 0 21) + x3)).toNat) ≠ (strO 14).2.2.2.getD x3.toNat 0) →
    wp_X12_is_s14_b75 Q (wp_X12_is_s14_l39 Q n) x3 1 σ)))
def wp_X12_is_s14_b36 (Q : Int → St → Prop) (s0 : Int) (σ : St) : Prop :=
 wp_X12_is_s14_l39 Q bigN s0 0 σ
def wp_X12_is_s14_b35 (Q : Int → St → Prop) (σ : St) : Prop :=
 wp_X12_is_s14_b36 Q 0 σ
def wp_X12_is_s14 (σ : St) (Q : Int → St → Prop) : Prop :=
 wp_X12_good σ (fun r1 σ2 =>
 ((r1 = 0) →
 wp_X12_is_s14_b35 Q σ2) ∧
 (¬ (r1 = 0) →
 ((σ2 0 22 ≠ 1) →
 wp_X12_is_s14_b35 Q σ2) ∧
 (¬ (σ2 0 22 ≠ 1) →
 ((w32 ((σ2 0 20) - (σ2 0 21)) ≠ 4) →
 wp_X12_is_s14_b35 Q σ2) ∧
 (¬ (w32 ((σ2 0 20) - (σ2 0 21)) ≠ 4) →
 wp_X12_is_s14_b36 Q 1 σ2))))
def wp_X12_is_s15_b75 (Q : Int → St → Prop) (K39 : Int → Int → St → Prop) (x3 : Int) (s0 : Int) (σ : St) : Prop :=
 ∀ v3 : Int, v3 = w32 (x3 + 1) →
 K39 s0 v3 σ
def wp_X12_is_s15_l39 (Q : Int → St → Prop) : Nat → Int → Int → St → Prop
  | 0, _, _, _ => False
  | n + 1, x2, x3, σ =>
    ((x3 ≥ 2) →
    (x2 = 0 ∨ x2 = 1) ∧ Q x2 σ) ∧
    (¬ (x3 ≥ 2) →
    ((x2 = 0) →
    (x2 = 0 ∨ x2 = 1) ∧ Q x2 σ) ∧
    (¬ (x2 = 0) →
    (0 ≤ w32 ((σ 0 21) + x3) ∧ w32 ((σ 0 21) + x3) < 1000) ∧
    (0 ≤ x3 ∧ x3 < 2) ∧
    ((σ 12 ((w32 ((σ 0 21) + x3)).toNat) ≠ (strO 15).2.2.2.getD x3.toNat 0) →
    wp_X12_is_s15_b75 Q (wp_X12_is_s15_l39 Q n) x3 0 σ) ∧
    (¬ (σ 12 ((w32 ((σ 0 21) + x3)).toNat) ≠ (strO 15).2.2.2.getD x3.toNat 0) →
    wp_X12_is_s15_b75 Q (wp_X12_is_s15_l39 Q n) x3 1 σ)))
def wp_X12_is_s15_b36 (Q : Int → St → Prop) (s0 : Int) (σ : St) : Prop :=
 wp_X12_is_s15_l39 Q bigN s0 0 σ
def wp_X12_is_s15_b35 (Q : Int → St → Prop) (σ : St) : Prop :=
 wp_X12_is_s15_b36 Q 0 σ
def wp_X12_is_s15 (σ : St) (Q : Int → St → Prop) : Prop :=
 wp_X12_good σ (fun r1 σ2 =>
 ((r1 = 0) →
 wp_X12_is_s15_b35 Q σ2) ∧
 (¬ (r1 = 0) →
 ((σ2 0 22 ≠ 1) →
 wp_X12_is_s15_b35 Q σ2) ∧
 (¬ (σ2 0 22 ≠ 1) →
 ((w32 ((σ2 0 20) - (σ2 0 21)) ≠ 2) →
 wp_X12_is_s15_b35 Q σ2) ∧
 (¬ (w32 ((σ2 0 20) - (σ2 0 21)) ≠ 2) →
 wp_X12_is_s15_b36 Q 1 σ2))))
def wp_X12_readRule_b182 (Q : Int → St → Prop) (σ : St) : Prop :=
 ∀ σ41 : St, σ41 = upS σ 0 13 (w32 ((σ 0 13) + 1)) →
 Q 0 σ41
def wp_X12_readRule_b138 (Q : Int → St → Prop) (x1 : Int) (σ : St) : Prop :=
 (0 ≤ x1 ∧ x1 < 80) ∧ ∀ σ33 : St, σ33 = upS σ 5 x1.toNat (σ 8 (Int.toNat 1)) →
 wp_X12_is_s15 σ33 (fun r34 σ35 =>
 ((r34 = 0) →
 wp_X12_readRule_b182 Q σ35) ∧
 (¬ (r34 = 0) →
 wp_X12_advance σ35 (fun r36 σ37 =>
 wp_X12_takes 0 (w32 ((σ37 6 (Int.toNat 1)) - 1)) σ37 (fun r38 σ39 =>
 (0 ≤ x1 ∧ x1 < 80) ∧ ∀ σ40 : St, σ40 = upS σ39 5 x1.toNat r38 →
 wp_X12_readRule_b182 Q σ40))))
def wp_X12_readRule_b104 (Q : Int → St → Prop) (x1 : Int) (s0 : Int) (s1 : Int) (σ : St) : Prop :=
 (0 ≤ s1 ∧ s1 < 80) ∧ ∀ σ24 : St, σ24 = upS σ 3 s1.toNat s0 →
 (0 ≤ x1 ∧ x1 < 80) ∧ ∀ σ25 : St, σ25 = upS σ24 4 x1.toNat 1 →
 wp_X12_is_s14 σ25 (fun r26 σ27 =>
 ((r26 = 0) →
 wp_X12_readRule_b138 Q x1 σ27) ∧
 (¬ (r26 = 0) →
 wp_X12_advance σ27 (fun r28 σ29 =>
 wp_X12_takes 1 99 σ29 (fun r30 σ31 =>
 (0 ≤ x1 ∧ x1 < 80) ∧ ∀ σ32 : St, σ32 = upS σ31 4 x1.toNat r30 →
 wp_X12_readRule_b138 Q x1 σ32))))
def wp_X12_readRule_b68 (Q : Int → St → Prop) (x1 : Int) (σ : St) : Prop :=
 wp_X12_takesSign 61 σ (fun r15 σ16 =>
 wp_X12_readPart σ16 (fun r17 σ18 =>
 (0 ≤ x1 ∧ x1 < 80) ∧ ∀ σ19 : St, σ19 = upS σ18 2 x1.toNat r17 →
 wp_X12_isPart σ19 (fun r20 σ21 =>
 ((r20 = 0) →
 wp_X12_readRule_b104 Q x1 ((-1)) x1 σ21) ∧
 (¬ (r20 = 0) →
 wp_X12_readPart σ21 (fun r22 σ23 =>
 wp_X12_readRule_b104 Q x1 r22 x1 σ23)))))
def wp_X12_readRule_b47 (Q : Int → St → Prop) (x1 : Int) (σ : St) : Prop :=
 (0 ≤ x1 ∧ x1 < 80) ∧ ∀ σ10 : St, σ10 = upS σ 1 x1.toNat (σ 0 23) →
 wp_X12_good σ10 (fun r11 σ12 =>
 ((r11 = 0) →
 wp_X12_readRule_b68 Q x1 σ12) ∧
 (¬ (r11 = 0) →
 wp_X12_advance σ12 (fun r13 σ14 =>
 wp_X12_readRule_b68 Q x1 σ14)))
def wp_X12_readRule_b14 (Q : Int → St → Prop) (σ : St) : Prop :=
 wp_X12_good σ (fun r3 σ4 =>
 ((r3 ≠ 0) →
 wp_X12_advance σ4 (fun r5 σ6 =>
 ∀ v7 : Int, v7 = w32 (40 + (σ6 0 13)) →
 ((σ6 0 22 = 3) →
 wp_X12_readRule_b47 Q v7 σ6) ∧
 (¬ (σ6 0 22 = 3) →
 wp_X12_errs 1 σ6 (fun r8 σ9 =>
 wp_X12_readRule_b47 Q v7 σ9)))) ∧
 (¬ (r3 ≠ 0) →
 Q 0 σ4))
def wp_X12_readRule (σ : St) (Q : Int → St → Prop) : Prop :=
 ((σ 0 13 ≠ 40) →
 wp_X12_readRule_b14 Q σ) ∧
 (¬ (σ 0 13 ≠ 40) →
 wp_X12_errs 3 σ (fun r1 σ2 =>
 wp_X12_readRule_b14 Q σ2))
def wp_X12_grammar_b97 (Q : Int → St → Prop) (K56 : Int → St → Prop) (x1 : Int) (s0 : Int) (s1 : Int) (σ : St) : Prop :=
 (0 ≤ s1 ∧ s1 < 50) ∧ ∀ σ31 : St, σ31 = upS σ 10 s1.toNat s0 →
 ∀ v32 : Int, v32 = w32 (x1 + 1) →
 K56 v32 σ31
def wp_X12_grammar_b78 (Q : Int → St → Prop) (K56 : Int → St → Prop) (x1 : Int) (s0 : Int) (s1 : Int) (σ : St) : Prop :=
 (0 ≤ s1 ∧ s1 < 50) ∧ ∀ σ18 : St, σ18 = upS σ 9 s1.toNat s0 →
 ((x1 ≠ 3) →
 wp_X12_grammar_b97 Q K56 x1 0 (w32 (25 + x1)) σ18) ∧
 (¬ (x1 ≠ 3) →
 wp_X12_grammar_b97 Q K56 x1 1 (w32 (25 + x1)) σ18)
def wp_X12_grammar_b165 (Q : Int → St → Prop) (K110 : Int → St → Prop) (σ : St) : Prop :=
 wp_X12_takesSign 59 σ (fun r29 σ30 =>
 K110 0 σ30)
def wp_X12_grammar_b144 (Q : Int → St → Prop) (K110 : Int → St → Prop) (σ : St) : Prop :=
 wp_X12_is_s13 σ (fun r23 σ24 =>
 ((r23 = 0) →
 wp_X12_errs 1 σ24 (fun r25 σ26 =>
 wp_X12_grammar_b165 Q K110 σ26)) ∧
 (¬ (r23 = 0) →
 wp_X12_readRule σ24 (fun r27 σ28 =>
 wp_X12_grammar_b165 Q K110 σ28)))
def wp_X12_grammar_l328 (Q : Int → St → Prop) : Nat → Int → St → Prop
  | 0, _, _ => False
  | n + 1, x2, σ =>
    ((x2 ≥ 25) →
    Q (σ 0 1) σ) ∧
    (¬ (x2 ≥ 25) →
    (0 ≤ w32 (25 + x2) ∧ w32 (25 + x2) < 50) ∧
    (0 ≤ x2 ∧ x2 < 50) ∧ ∀ σ42 : St, σ42 = upS σ 9 x2.toNat (σ 9 ((w32 (25 + x2)).toNat)) →
    (0 ≤ w32 (25 + x2) ∧ w32 (25 + x2) < 50) ∧
    (0 ≤ x2 ∧ x2 < 50) ∧ ∀ σ43 : St, σ43 = upS σ42 10 x2.toNat (σ42 10 ((w32 (25 + x2)).toNat)) →
    ∀ v44 : Int, v44 = w32 (x2 + 1) →
    (wp_X12_grammar_l328 Q n) v44 σ43)
def wp_X12_grammar_l201 (Q : Int → St → Prop) : Nat → Int → St → Prop
  | 0, _, _ => False
  | n + 1, x2, σ =>
    ((x2 ≥ σ 0 1) →
    ∀ σ33 : St, σ33 = upS σ 6 (Int.toNat 0) (σ 6 (Int.toNat 1)) →
    ∀ σ34 : St, σ34 = upS σ33 7 (Int.toNat 0) (σ33 7 (Int.toNat 1)) →
    ∀ σ35 : St, σ35 = upS σ34 8 (Int.toNat 0) (σ34 8 (Int.toNat 1)) →
    wp_X12_grammar_l328 Q bigN 0 σ35) ∧
    (¬ (x2 ≥ σ 0 1) →
    (0 ≤ w32 (40 + x2) ∧ w32 (40 + x2) < 80) ∧
    (0 ≤ x2 ∧ x2 < 80) ∧ ∀ σ36 : St, σ36 = upS σ 1 x2.toNat (σ 1 ((w32 (40 + x2)).toNat)) →
    (0 ≤ w32 (40 + x2) ∧ w32 (40 + x2) < 80) ∧
    (0 ≤ x2 ∧ x2 < 80) ∧ ∀ σ37 : St, σ37 = upS σ36 2 x2.toNat (σ36 2 ((w32 (40 + x2)).toNat)) →
    (0 ≤ w32 (40 + x2) ∧ w32 (40 + x2) < 80) ∧
    (0 ≤ x2 ∧ x2 < 80) ∧ ∀ σ38 : St, σ38 = upS σ37 3 x2.toNat (σ37 3 ((w32 (40 + x2)).toNat)) →
    (0 ≤ w32 (40 + x2) ∧ w32 (40 + x2) < 80) ∧
    (0 ≤ x2 ∧ x2 < 80) ∧ ∀ σ39 : St, σ39 = upS σ38 4 x2.toNat (σ38 4 ((w32 (40 + x2)).toNat)) →
    (0 ≤ w32 (40 + x2) ∧ w32 (40 + x2) < 80) ∧
    (0 ≤ x2 ∧ x2 < 80) ∧ ∀ σ40 : St, σ40 = upS σ39 5 x2.toNat (σ39 5 ((w32 (40 + x2)).toNat)) →
    ∀ v41 : Int, v41 = w32 (x2 + 1) →
    (wp_X12_grammar_l201 Q n) v41 σ40)
def wp_X12_grammar_b176 (Q : Int → St → Prop) (σ : St) : Prop :=
 wp_X12_good σ (fun r19 σ20 =>
 ((r19 ≠ 0) →
 ∀ σ21 : St, σ21 = upS σ20 0 1 (σ20 0 13) →
 ∀ σ22 : St, σ22 = upS σ21 0 2 0 →
 wp_X12_grammar_l201 Q bigN 0 σ22) ∧
 (¬ (r19 ≠ 0) →
 Q ((-4)) σ20))
def wp_X12_grammar_l110 (Q : Int → St → Prop) : Nat → Int → St → Prop
  | 0, _, _ => False
  | n + 1, x1, σ =>
    wp_X12_good σ (fun r12 σ13 =>
    ((r12 = 0) →
    wp_X12_grammar_b176 Q σ13) ∧
    (¬ (r12 = 0) →
    ((σ13 0 22 = 0) →
    wp_X12_grammar_b176 Q σ13) ∧
    (¬ (σ13 0 22 = 0) →
    ((x1 = 0) →
    wp_X12_grammar_b144 Q (wp_X12_grammar_l110 Q n) σ13) ∧
    (¬ (x1 = 0) →
    wp_X12_is_s8 σ13 (fun r14 σ15 =>
    ((r14 = 0) →
    wp_X12_grammar_b144 Q (wp_X12_grammar_l110 Q n) σ15) ∧
    (¬ (r14 = 0) →
    wp_X12_readTable σ15 (fun r16 σ17 =>
    wp_X12_grammar_b165 Q (wp_X12_grammar_l110 Q n) σ17)))))))
def wp_X12_grammar_l56 (Q : Int → St → Prop) : Nat → Int → St → Prop
  | 0, _, _ => False
  | n + 1, x1, σ =>
    ((x1 ≥ 4) →
    wp_X12_advance σ (fun r10 σ11 =>
    wp_X12_grammar_l110 Q bigN 1 σ11)) ∧
    (¬ (x1 ≥ 4) →
    ((x1 ≤ 0) →
    wp_X12_grammar_b78 Q (wp_X12_grammar_l56 Q n) x1 0 (w32 (25 + x1)) σ) ∧
    (¬ (x1 ≤ 0) →
    wp_X12_grammar_b78 Q (wp_X12_grammar_l56 Q n) x1 1 (w32 (25 + x1)) σ))
def wp_X12_grammar (σ : St) (Q : Int → St → Prop) : Prop :=
 ∀ σ1 : St, σ1 = upS σ 0 19 (σ 0 17) →
 ∀ σ2 : St, σ2 = upS σ1 0 17 0 →
 ∀ σ3 : St, σ3 = upS σ2 0 20 0 →
 ∀ σ4 : St, σ4 = upS σ3 0 24 0 →
 ∀ σ5 : St, σ5 = upS σ4 0 25 ((-1)) →
 ∀ σ6 : St, σ6 = upS σ5 0 13 0 →
 ∀ σ7 : St, σ7 = upS σ6 6 (Int.toNat 1) 2 →
 ∀ σ8 : St, σ8 = upS σ7 7 (Int.toNat 1) 0 →
 ∀ σ9 : St, σ9 = upS σ8 8 (Int.toNat 1) 1 →
 wp_X12_grammar_l56 Q bigN 0 σ9
def wp_X12_fault (x1 : Int) (σ : St) (Q : Int → St → Prop) : Prop :=
 ((x1 ≠ 0) →
 ((x1 ≠ 1) →
 Q ((-1)) σ) ∧
 (¬ (x1 ≠ 1) →
 Q (σ 0 25) σ)) ∧
 (¬ (x1 ≠ 0) →
 Q (σ 0 24) σ)
def wp_X12_say_l61 (Q : Int → St → Prop) : Nat → Int → Int → St → Prop
  | 0, _, _, _ => False
  | n + 1, x1, x2, σ =>
    ((x2 ≥ x1) →
    Q x1 σ) ∧
    (¬ (x2 ≥ x1) →
    (0 ≤ x2 ∧ x2 < 1000) ∧
    (0 ≤ x2 ∧ x2 < 8) ∧ ∀ σ7 : St, σ7 = upS σ 11 x2.toNat (w32 ((σ 12 (x2.toNat)) - 97)) →
    ∀ v8 : Int, v8 = w32 (x2 + 1) →
    (wp_X12_say_l61 Q n) x1 v8 σ7)
def wp_X12_say_l21 (Q : Int → St → Prop) : Nat → Int → Int → St → Prop
  | 0, _, _, _ => False
  | n + 1, x1, x2, σ =>
    ((x2 ≥ x1) →
    ∀ σ3 : St, σ3 = upS σ 0 15 x1 →
    wp_X12_say_l61 Q bigN x1 0 σ3) ∧
    (¬ (x2 ≥ x1) →
    (0 ≤ x2 ∧ x2 < 1000) ∧
    wp_X12_in (σ 12 (x2.toNat)) 97 122 σ (fun r4 σ5 =>
    ((r4 ≠ 0) →
    ∀ v6 : Int, v6 = w32 (x2 + 1) →
    (wp_X12_say_l21 Q n) x1 v6 σ5) ∧
    (¬ (r4 ≠ 0) →
    Q ((-4)) σ5)))
def wp_X12_say (σ : St) (Q : Int → St → Prop) : Prop :=
 ∀ v1 : Int, v1 = σ 0 17 →
 ∀ σ2 : St, σ2 = upS σ 0 17 0 →
 ((v1 ≤ 8) →
 wp_X12_say_l21 Q bigN v1 0 σ2) ∧
 (¬ (v1 ≤ 8) →
 Q ((-4)) σ2)
def wp_X12_isRule (x1 : Int) (σ : St) (Q : Int → St → Prop) : Prop :=
 wp_X12_in x1 0 (w32 ((σ 0 1) - 1)) σ (fun r1 σ2 =>
 (r1 = 0 ∨ r1 = 1) ∧ Q r1 σ2)
def wp_X12_rule (x1 : Int) (x2 : Int) (σ : St) (Q : Int → St → Prop) : Prop :=
 wp_X12_isRule x1 σ (fun r1 σ2 =>
 ((r1 ≠ 0) →
 (x2 = 0 →
 (0 ≤ x1 ∧ x1 < 80) ∧
 Q (σ2 1 (x1.toNat)) σ2) ∧
 (x2 = 1 →
 (0 ≤ x1 ∧ x1 < 80) ∧
 Q (σ2 2 (x1.toNat)) σ2) ∧
 (x2 = 2 →
 (0 ≤ x1 ∧ x1 < 80) ∧
 Q (σ2 3 (x1.toNat)) σ2) ∧
 (x2 = 3 →
 (0 ≤ x1 ∧ x1 < 80) ∧
 Q (σ2 4 (x1.toNat)) σ2) ∧
 (x2 = 4 →
 (0 ≤ x1 ∧ x1 < 80) ∧
 Q (σ2 5 (x1.toNat)) σ2) ∧
 (x2 = 5 →
 Q (l_int (l_and (l_shr (σ2 0 2) x1) 1)) σ2) ∧
 (¬ x2 = 0 ∧ ¬ x2 = 1 ∧ ¬ x2 = 2 ∧ ¬ x2 = 3 ∧ ¬ x2 = 4 ∧ ¬ x2 = 5 →
 Q ((-2)) σ2)) ∧
 (¬ (r1 ≠ 0) →
 Q ((-2)) σ2))
def wp_X12_isElement (x1 : Int) (σ : St) (Q : Int → St → Prop) : Prop :=
 wp_X12_in x1 0 (w32 ((σ 6 (Int.toNat 0)) - 1)) σ (fun r1 σ2 =>
 (r1 = 0 ∨ r1 = 1) ∧ Q r1 σ2)
def wp_X12_product2 (x1 : Int) (x2 : Int) (σ : St) (Q : Int → St → Prop) : Prop :=
 (0 ≤ w32 ((w32 (x1 * (σ 6 (Int.toNat 0)))) + x2) ∧ w32 ((w32 (x1 * (σ 6 (Int.toNat 0)))) + x2) < 50) ∧
 Q (σ 10 ((w32 ((w32 (x1 * (σ 6 (Int.toNat 0)))) + x2)).toNat)) σ
def wp_X12_sum2 (x1 : Int) (x2 : Int) (σ : St) (Q : Int → St → Prop) : Prop :=
 (0 ≤ w32 ((w32 (x1 * (σ 6 (Int.toNat 0)))) + x2) ∧ w32 ((w32 (x1 * (σ 6 (Int.toNat 0)))) + x2) < 50) ∧
 Q (σ 9 ((w32 ((w32 (x1 * (σ 6 (Int.toNat 0)))) + x2)).toNat)) σ
def wp_X12_table (x1 : Int) (x2 : Int) (x3 : Int) (σ : St) (Q : Int → St → Prop) : Prop :=
 wp_X12_in x1 0 1 σ (fun r1 σ2 =>
 ((r1 = 0) →
 Q ((-2)) σ2) ∧
 (¬ (r1 = 0) →
 wp_X12_isElement x2 σ2 (fun r3 σ4 =>
 ((r3 = 0) →
 Q ((-2)) σ4) ∧
 (¬ (r3 = 0) →
 wp_X12_isElement x3 σ4 (fun r5 σ6 =>
 ((r5 ≠ 0) →
 ((x1 ≠ 0) →
 wp_X12_product2 x2 x3 σ6 (fun r7 σ8 =>
 Q r7 σ8)) ∧
 (¬ (x1 ≠ 0) →
 wp_X12_sum2 x2 x3 σ6 (fun r9 σ10 =>
 Q r9 σ10))) ∧
 (¬ (r5 ≠ 0) →
 Q ((-2)) σ6))))))
def wp_X12_drops_b55 (Q : Int → St → Prop) (x3 : Int) (s0 : Int) (σ : St) : Prop :=
 ∀ σ6 : St, σ6 = upS σ 0 2 s0 →
 ((x3 ≠ σ6 0 2) →
 Q 1 σ6) ∧
 (¬ (x3 ≠ σ6 0 2) →
 Q 0 σ6)
def wp_X12_drops (x1 : Int) (x2 : Int) (σ : St) (Q : Int → St → Prop) : Prop :=
 wp_X12_isRule x1 σ (fun r1 σ2 =>
 ((r1 = 0) →
 Q ((-2)) σ2) ∧
 (¬ (r1 = 0) →
 wp_X12_in x2 0 1 σ2 (fun r3 σ4 =>
 ((r3 ≠ 0) →
 ∀ v5 : Int, v5 = σ4 0 2 →
 ((x2 ≠ 1) →
 wp_X12_drops_b55 Q v5 (l_and (σ4 0 2) (l_xor (l_shl 1 x1) ((-1)))) σ4) ∧
 (¬ (x2 ≠ 1) →
 wp_X12_drops_b55 Q v5 (l_or (σ4 0 2) (l_shl 1 x1)) σ4)) ∧
 (¬ (r3 ≠ 0) →
 Q ((-2)) σ4))))
def wp_X12_prices (x1 : Int) (x2 : Int) (σ : St) (Q : Int → St → Prop) : Prop :=
 wp_X12_isRule x1 σ (fun r1 σ2 =>
 ((r1 = 0) →
 Q ((-2)) σ2) ∧
 (¬ (r1 = 0) →
 wp_X12_in x2 1 99 σ2 (fun r3 σ4 =>
 ((r3 ≠ 0) →
 (0 ≤ x1 ∧ x1 < 80) ∧
 ∀ v5 : Int, v5 = σ4 4 (x1.toNat) →
 (0 ≤ x1 ∧ x1 < 80) ∧ ∀ σ6 : St, σ6 = upS σ4 4 x1.toNat x2 →
 Q v5 σ6) ∧
 (¬ (r3 ≠ 0) →
 Q ((-2)) σ4))))
def wp_X12_elements (x1 : Int) (x2 : Int) (σ : St) (Q : Int → St → Prop) : Prop :=
 wp_X12_isRule x1 σ (fun r1 σ2 =>
 ((r1 = 0) →
 Q ((-2)) σ2) ∧
 (¬ (r1 = 0) →
 wp_X12_isElement x2 σ2 (fun r3 σ4 =>
 ((r3 ≠ 0) →
 (0 ≤ x1 ∧ x1 < 80) ∧
 ∀ v5 : Int, v5 = σ4 5 (x1.toNat) →
 (0 ≤ x1 ∧ x1 < 80) ∧ ∀ σ6 : St, σ6 = upS σ4 5 x1.toNat x2 →
 Q v5 σ6) ∧
 (¬ (r3 ≠ 0) →
 Q ((-2)) σ4))))
def wp_X12_isItem_b33 (Q : Int → St → Prop) (σ : St) : Prop :=
 Q 0 σ
def wp_X12_isItem (x1 : Int) (x2 : Int) (x3 : Int) (σ : St) (Q : Int → St → Prop) : Prop :=
 wp_X12_in x1 0 11 σ (fun r1 σ2 =>
 ((r1 = 0) →
 wp_X12_isItem_b33 Q σ2) ∧
 (¬ (r1 = 0) →
 ((x2 < 0) →
 wp_X12_isItem_b33 Q σ2) ∧
 (¬ (x2 < 0) →
 ((x2 ≥ x3) →
 wp_X12_isItem_b33 Q σ2) ∧
 (¬ (x2 ≥ x3) →
 ((x3 > σ2 0 15) →
 wp_X12_isItem_b33 Q σ2) ∧
 (¬ (x3 > σ2 0 15) →
 Q 1 σ2)))))
def wp_X12_isIn (x1 : Int) (σ : St) (Q : Int → St → Prop) : Prop :=
 ((l_and (l_shr (σ 0 28) x1) 1 ≠ 0) →
 Q 0 σ) ∧
 (¬ (l_and (l_shr (σ 0 28) x1) 1 ≠ 0) →
 Q 1 σ)
def wp_X12_item (x0 : Int) (x1 : Int) (x2 : Int) (σ : St) (Q : Int → St → Prop) : Prop :=
 Q (w32 ((w32 ((w32 ((w32 ((w32 (x0 * 8)) + x1)) * 8)) + x2)) - 1)) σ
def wp_X12_fits_b30 (Q : Int → St → Prop) (σ : St) : Prop :=
 Q 0 σ
def wp_X12_fits (x1 : Int) (x2 : Int) (x3 : Int) (σ : St) (Q : Int → St → Prop) : Prop :=
 ((x1 < 100) →
 wp_X12_item x1 x2 x3 σ (fun r1 σ2 =>
 (0 ≤ r1 ∧ r1 < 768) ∧
 ((σ2 15 (r1.toNat) ≥ 1000000000) →
 Q 0 σ2) ∧
 (¬ (σ2 15 (r1.toNat) ≥ 1000000000) →
 Q 1 σ2))) ∧
 (¬ (x1 < 100) →
 ((x3 ≠ w32 (x2 + 1)) →
 wp_X12_fits_b30 Q σ) ∧
 (¬ (x3 ≠ w32 (x2 + 1)) →
 (0 ≤ x2 ∧ x2 < 8) ∧
 ((σ 14 (x2.toNat) ≠ w32 (x1 - 100)) →
 wp_X12_fits_b30 Q σ) ∧
 (¬ (σ 14 (x2.toNat) ≠ w32 (x1 - 100)) →
 Q 1 σ)))
def wp_X12_leastPart (x1 : Int) (x2 : Int) (x3 : Int) (σ : St) (Q : Int → St → Prop) : Prop :=
 ((x1 < 100) →
 wp_X12_item x1 x2 x3 σ (fun r1 σ2 =>
 (0 ≤ r1 ∧ r1 < 768) ∧
 Q (σ2 15 (r1.toNat)) σ2)) ∧
 (¬ (x1 < 100) →
 Q 0 σ)
def wp_X12_lowers (x1 : Int) (x2 : Int) (x3 : Int) (x4 : Int) (σ : St) (Q : Int → St → Prop) : Prop :=
 wp_X12_item x1 x2 x3 σ (fun r1 σ2 =>
 (0 ≤ r1 ∧ r1 < 768) ∧
 ((x4 < σ2 15 (r1.toNat)) →
 wp_X12_item x1 x2 x3 σ2 (fun r3 σ4 =>
 (0 ≤ r3 ∧ r3 < 768) ∧ ∀ σ5 : St, σ5 = upS σ4 15 r3.toNat x4 →
 Q 1 σ5)) ∧
 (¬ (x4 < σ2 15 (r1.toNat)) →
 Q 0 σ2))
def wp_X12_laysTwos_b90 (Q : Int → St → Prop) (K5 : Int → Int → Int → Int → St → Prop) (x1 : Int) (x2 : Int) (x3 : Int) (x4 : Int) (σ : St) : Prop :=
 ∀ v12 : Int, v12 = w32 (x4 + 1) →
 K5 x1 x2 x3 v12 σ
def wp_X12_laysTwos_l5 (Q : Int → St → Prop) : Nat → Int → Int → Int → Int → St → Prop
  | 0, _, _, _, _, _ => False
  | n + 1, x1, x2, x3, x4, σ =>
    ((x4 ≥ x3) →
    Q 0 σ) ∧
    (¬ (x4 ≥ x3) →
    (0 ≤ x1 ∧ x1 < 80) ∧
    wp_X12_fits (σ 2 (x1.toNat)) x2 x4 σ (fun r2 σ3 =>
    ((r2 = 0) →
    wp_X12_laysTwos_b90 Q (wp_X12_laysTwos_l5 Q n) x1 x2 x3 x4 σ3) ∧
    (¬ (r2 = 0) →
    (0 ≤ x1 ∧ x1 < 80) ∧
    wp_X12_fits (σ3 3 (x1.toNat)) x4 x3 σ3 (fun r4 σ5 =>
    ((r4 = 0) →
    wp_X12_laysTwos_b90 Q (wp_X12_laysTwos_l5 Q n) x1 x2 x3 x4 σ5) ∧
    (¬ (r4 = 0) →
    (0 ≤ x1 ∧ x1 < 80) ∧
    (0 ≤ x1 ∧ x1 < 80) ∧
    (0 ≤ x1 ∧ x1 < 80) ∧
    wp_X12_leastPart (σ5 2 (x1.toNat)) x2 x4 σ5 (fun r6 σ7 =>
    (0 ≤ x1 ∧ x1 < 80) ∧
    wp_X12_leastPart (σ7 3 (x1.toNat)) x4 x3 σ7 (fun r8 σ9 =>
    wp_X12_lowers (σ5 1 (x1.toNat)) x2 x3 (w32 ((w32 ((σ5 4 (x1.toNat)) + r6)) + r8)) σ9 (fun r10 σ11 =>
    wp_X12_laysTwos_b90 Q (wp_X12_laysTwos_l5 Q n) x1 x2 x3 x4 σ11))))))))
def wp_X12_laysTwos (x1 : Int) (x2 : Int) (x3 : Int) (σ : St) (Q : Int → St → Prop) : Prop :=
 ∀ v1 : Int, v1 = w32 (x2 + 1) →
 wp_X12_laysTwos_l5 Q bigN x1 x2 x3 v1 σ
def wp_X12_laysSpan_b35 (Q : Int → St → Prop) (K2 : Int → Int → Int → St → Prop) (x1 : Int) (x2 : Int) (x3 : Int) (σ : St) : Prop :=
 ∀ v5 : Int, v5 = w32 (x3 + 1) →
 K2 x1 x2 v5 σ
def wp_X12_laysSpan_b144 (Q : Int → St → Prop) (K43 : Int → Int → Int → St → Prop) (K52 : Int → Int → Int → Int → St → Prop) (x1 : Int) (x2 : Int) (x3 : Int) (x4 : Int) (σ : St) : Prop :=
 ∀ v14 : Int, v14 = w32 (x4 + 1) →
 K52 x1 x2 x3 v14 σ
def wp_X12_laysSpan_b143 (Q : Int → St → Prop) (K43 : Int → Int → Int → St → Prop) (K52 : Int → Int → Int → Int → St → Prop) (x1 : Int) (x2 : Int) (x4 : Int) (s0 : Int) (σ : St) : Prop :=
 wp_X12_laysSpan_b144 Q K43 K52 x1 x2 s0 x4 σ
def wp_X12_laysSpan_b138 (Q : Int → St → Prop) (K43 : Int → Int → Int → St → Prop) (K52 : Int → Int → Int → Int → St → Prop) (x1 : Int) (x2 : Int) (x4 : Int) (σ : St) : Prop :=
 wp_X12_laysSpan_b143 Q K43 K52 x1 x2 x4 1 σ
def wp_X12_laysSpan_l52 (Q : Int → St → Prop) (K43 : Int → Int → Int → St → Prop) : Nat → Int → Int → Int → Int → St → Prop
  | 0, _, _, _, _, _ => False
  | n + 1, x1, x2, x3, x4, σ =>
    ((x4 ≥ σ 0 1) →
    K43 x1 x2 x3 σ) ∧
    (¬ (x4 ≥ σ 0 1) →
    wp_X12_isIn x4 σ (fun r6 σ7 =>
    ((r6 = 0) →
    wp_X12_laysSpan_b144 Q K43 (wp_X12_laysSpan_l52 Q K43 n) x1 x2 x3 x4 σ7) ∧
    (¬ (r6 = 0) →
    (0 ≤ x4 ∧ x4 < 80) ∧
    ((σ7 3 (x4.toNat) ≠ (-1)) →
    wp_X12_laysSpan_b144 Q K43 (wp_X12_laysSpan_l52 Q K43 n) x1 x2 x3 x4 σ7) ∧
    (¬ (σ7 3 (x4.toNat) ≠ (-1)) →
    (0 ≤ x4 ∧ x4 < 80) ∧
    wp_X12_fits (σ7 2 (x4.toNat)) x1 x2 σ7 (fun r8 σ9 =>
    ((r8 = 0) →
    wp_X12_laysSpan_b144 Q K43 (wp_X12_laysSpan_l52 Q K43 n) x1 x2 x3 x4 σ9) ∧
    (¬ (r8 = 0) →
    (0 ≤ x4 ∧ x4 < 80) ∧
    (0 ≤ x4 ∧ x4 < 80) ∧
    (0 ≤ x4 ∧ x4 < 80) ∧
    wp_X12_leastPart (σ9 2 (x4.toNat)) x1 x2 σ9 (fun r10 σ11 =>
    wp_X12_lowers (σ9 1 (x4.toNat)) x1 x2 (w32 ((σ9 4 (x4.toNat)) + r10)) σ11 (fun r12 σ13 =>
    ((r12 ≠ 0) →
    wp_X12_laysSpan_b138 Q K43 (wp_X12_laysSpan_l52 Q K43 n) x1 x2 x4 σ13) ∧
    (¬ (r12 ≠ 0) →
    ((x3 = 0) →
    wp_X12_laysSpan_b143 Q K43 (wp_X12_laysSpan_l52 Q K43 n) x1 x2 x4 0 σ13) ∧
    (¬ (x3 = 0) →
    wp_X12_laysSpan_b138 Q K43 (wp_X12_laysSpan_l52 Q K43 n) x1 x2 x4 σ13))))))))))
def wp_X12_laysSpan_l43 (Q : Int → St → Prop) : Nat → Int → Int → Int → St → Prop
  | 0, _, _, _, _ => False
  | n + 1, x1, x2, x3, σ =>
    ((x3 = 0) →
    Q 0 σ) ∧
    (¬ (x3 = 0) →
    wp_X12_laysSpan_l52 Q (wp_X12_laysSpan_l43 Q n) bigN x1 x2 0 0 σ)
def wp_X12_laysSpan_l2 (Q : Int → St → Prop) : Nat → Int → Int → Int → St → Prop
  | 0, _, _, _, _ => False
  | n + 1, x1, x2, x3, σ =>
    ((x3 ≥ σ 0 1) →
    wp_X12_laysSpan_l43 Q bigN x1 x2 1 σ) ∧
    (¬ (x3 ≥ σ 0 1) →
    wp_X12_isIn x3 σ (fun r1 σ2 =>
    ((r1 = 0) →
    wp_X12_laysSpan_b35 Q (wp_X12_laysSpan_l2 Q n) x1 x2 x3 σ2) ∧
    (¬ (r1 = 0) →
    (0 ≤ x3 ∧ x3 < 80) ∧
    ((σ2 3 (x3.toNat) = (-1)) →
    wp_X12_laysSpan_b35 Q (wp_X12_laysSpan_l2 Q n) x1 x2 x3 σ2) ∧
    (¬ (σ2 3 (x3.toNat) = (-1)) →
    wp_X12_laysTwos x3 x1 x2 σ2 (fun r3 σ4 =>
    wp_X12_laysSpan_b35 Q (wp_X12_laysSpan_l2 Q n) x1 x2 x3 σ4)))))
def wp_X12_laysSpan (x1 : Int) (x2 : Int) (σ : St) (Q : Int → St → Prop) : Prop :=
 wp_X12_laysSpan_l2 Q bigN x1 x2 0 σ
def wp_X12_laysLeast_l42 (Q : Int → St → Prop) (K31 : Int → St → Prop) : Nat → Int → Int → St → Prop
  | 0, _, _, _ => False
  | n + 1, x3, x4, σ =>
    ((w32 (x4 + x3) > σ 0 27) →
    ∀ v4 : Int, v4 = w32 (x3 + 1) →
    K31 v4 σ) ∧
    (¬ (w32 (x4 + x3) > σ 0 27) →
    wp_X12_laysSpan x4 (w32 (x4 + x3)) σ (fun r5 σ6 =>
    ∀ v7 : Int, v7 = w32 (x4 + 1) →
    (wp_X12_laysLeast_l42 Q K31 n) x3 v7 σ6))
def wp_X12_laysLeast_l31 (Q : Int → St → Prop) : Nat → Int → St → Prop
  | 0, _, _ => False
  | n + 1, x3, σ =>
    ((x3 > σ 0 27) →
    Q 0 σ) ∧
    (¬ (x3 > σ 0 27) →
    wp_X12_laysLeast_l42 Q (wp_X12_laysLeast_l31 Q n) bigN x3 0 σ)
def wp_X12_laysLeast_l7 (Q : Int → St → Prop) : Nat → Int → St → Prop
  | 0, _, _ => False
  | n + 1, x3, σ =>
    ((x3 ≥ 768) →
    wp_X12_laysLeast_l31 Q bigN 1 σ) ∧
    (¬ (x3 ≥ 768) →
    (0 ≤ x3 ∧ x3 < 768) ∧ ∀ σ2 : St, σ2 = upS σ 15 x3.toNat 1000000000 →
    ∀ v3 : Int, v3 = w32 (x3 + 1) →
    (wp_X12_laysLeast_l7 Q n) v3 σ2)
def wp_X12_laysLeast (x1 : Int) (σ : St) (Q : Int → St → Prop) : Prop :=
 ∀ σ1 : St, σ1 = upS σ 0 28 x1 →
 wp_X12_laysLeast_l7 Q bigN 0 σ1
def wp_X12_looks_l10 (Q : Int → St → Prop) : Nat → Int → St → Prop
  | 0, _, _ => False
  | n + 1, x1, σ =>
    ((x1 ≥ σ 0 27) →
    wp_X12_laysLeast (σ 0 2) σ (fun r2 σ3 =>
    Q 0 σ3)) ∧
    (¬ (x1 ≥ σ 0 27) →
    (0 ≤ x1 ∧ x1 < 8) ∧
    (0 ≤ x1 ∧ x1 < 8) ∧ ∀ σ4 : St, σ4 = upS σ 14 x1.toNat (σ 11 (x1.toNat)) →
    ∀ v5 : Int, v5 = w32 (x1 + 1) →
    (wp_X12_looks_l10 Q n) v5 σ4)
def wp_X12_looks (σ : St) (Q : Int → St → Prop) : Prop :=
 ∀ σ1 : St, σ1 = upS σ 0 27 (σ 0 15) →
 wp_X12_looks_l10 Q bigN 0 σ1
def wp_X12_has (x1 : Int) (x2 : Int) (x3 : Int) (σ : St) (Q : Int → St → Prop) : Prop :=
 wp_X12_item x1 x2 x3 σ (fun r1 σ2 =>
 (0 ≤ r1 ∧ r1 < 768) ∧
 ((σ2 15 (r1.toNat) ≥ 1000000000) →
 Q 0 σ2) ∧
 (¬ (σ2 15 (r1.toNat) ≥ 1000000000) →
 Q 1 σ2))
def wp_X12_can (x1 : Int) (x2 : Int) (x3 : Int) (σ : St) (Q : Int → St → Prop) : Prop :=
 wp_X12_isItem x1 x2 x3 σ (fun r1 σ2 =>
 ((r1 ≠ 0) →
 wp_X12_looks σ2 (fun r3 σ4 =>
 wp_X12_has x1 x2 x3 σ4 (fun r5 σ6 =>
 ((r5 = 0) →
 Q 0 σ6) ∧
 (¬ (r5 = 0) →
 Q 1 σ6)))) ∧
 (¬ (r1 ≠ 0) →
 Q ((-2)) σ2))
def wp_X12_least (x1 : Int) (x2 : Int) (x3 : Int) (σ : St) (Q : Int → St → Prop) : Prop :=
 wp_X12_isItem x1 x2 x3 σ (fun r1 σ2 =>
 ((r1 ≠ 0) →
 wp_X12_looks σ2 (fun r3 σ4 =>
 wp_X12_has x1 x2 x3 σ4 (fun r5 σ6 =>
 ((r5 = 0) →
 Q ((-1)) σ6) ∧
 (¬ (r5 = 0) →
 wp_X12_item x1 x2 x3 σ6 (fun r7 σ8 =>
 (0 ≤ r7 ∧ r7 < 768) ∧
 Q (σ8 15 (r7.toNat)) σ8))))) ∧
 (¬ (r1 ≠ 0) →
 Q ((-2)) σ2))
def wp_X12_isSingle_b33 (Q : Int → St → Prop) (σ : St) : Prop :=
 Q 0 σ
def wp_X12_isSingle (x1 : Int) (σ : St) (Q : Int → St → Prop) : Prop :=
 wp_X12_isIn x1 σ (fun r1 σ2 =>
 ((r1 = 0) →
 wp_X12_isSingle_b33 Q σ2) ∧
 (¬ (r1 = 0) →
 (0 ≤ x1 ∧ x1 < 80) ∧
 ((σ2 3 (x1.toNat) ≠ (-1)) →
 wp_X12_isSingle_b33 Q σ2) ∧
 (¬ (σ2 3 (x1.toNat) ≠ (-1)) →
 (0 ≤ x1 ∧ x1 < 80) ∧
 ((σ2 2 (x1.toNat) ≥ 12) →
 wp_X12_isSingle_b33 Q σ2) ∧
 (¬ (σ2 2 (x1.toNat) ≥ 12) →
 Q 1 σ2))))
def wp_X12_ringsAt_b81 (Q : Int → St → Prop) (K23 : Int → Int → Int → St → Prop) (x1 : Int) (x2 : Int) (x3 : Int) (σ : St) : Prop :=
 ∀ v7 : Int, v7 = w32 (x3 + 1) →
 K23 x1 x2 v7 σ
def wp_X12_ringsAt_b59 (Q : Int → St → Prop) (K23 : Int → Int → Int → St → Prop) (x1 : Int) (x2 : Int) (x3 : Int) (σ : St) : Prop :=
 (0 ≤ x3 ∧ x3 < 80) ∧
 (0 ≤ σ 1 (x3.toNat) ∧ σ 1 (x3.toNat) < 12) ∧
 (0 ≤ x3 ∧ x3 < 80) ∧
 (0 ≤ σ 1 (x3.toNat) ∧ σ 1 (x3.toNat) < 12) ∧ ∀ σ8 : St, σ8 = upS σ 19 (σ 1 (x3.toNat)).toNat (b_or (σ 19 ((σ 1 (x3.toNat)).toNat)) (b_shl 1 (σ 2 (x3.toNat)))) →
 wp_X12_ringsAt_b81 Q K23 x1 x2 x3 σ8
def wp_X12_ringsAt_b136 (Q : Int → St → Prop) (K89 : Int → St → Prop) (K98 : Int → Int → St → Prop) (x3 : Int) (x4 : Int) (σ : St) : Prop :=
 ∀ v13 : Int, v13 = w32 (x4 + 1) →
 K98 x3 v13 σ
def wp_X12_ringsAt_l98 (Q : Int → St → Prop) (K89 : Int → St → Prop) : Nat → Int → Int → St → Prop
  | 0, _, _, _ => False
  | n + 1, x3, x4, σ =>
    ((x4 ≥ 12) →
    ∀ v11 : Int, v11 = w32 (x3 + 1) →
    K89 v11 σ) ∧
    (¬ (x4 ≥ 12) →
    (0 ≤ x4 ∧ x4 < 12) ∧
    ((b_and (b_shr (σ 19 (x4.toNat)) x3) 1 ≠ 1) →
    wp_X12_ringsAt_b136 Q K89 (wp_X12_ringsAt_l98 Q K89 n) x3 x4 σ) ∧
    (¬ (b_and (b_shr (σ 19 (x4.toNat)) x3) 1 ≠ 1) →
    (0 ≤ x4 ∧ x4 < 12) ∧
    (0 ≤ x3 ∧ x3 < 12) ∧
    (0 ≤ x4 ∧ x4 < 12) ∧ ∀ σ12 : St, σ12 = upS σ 19 x4.toNat (b_or (σ 19 (x4.toNat)) (σ 19 (x3.toNat))) →
    wp_X12_ringsAt_b136 Q K89 (wp_X12_ringsAt_l98 Q K89 n) x3 x4 σ12))
def wp_X12_ringsAt_l153 (Q : Int → St → Prop) : Nat → Int → Int → St → Prop
  | 0, _, _, _ => False
  | n + 1, x3, x4, σ =>
    ((x4 ≥ 12) →
    Q x3 σ) ∧
    (¬ (x4 ≥ 12) →
    (0 ≤ x4 ∧ x4 < 12) ∧
    ∀ v9 : Int, v9 = b_or x3 (b_and (σ 19 (x4.toNat)) (b_shl 1 x4)) →
    ∀ v10 : Int, v10 = w32 (x4 + 1) →
    (wp_X12_ringsAt_l153 Q n) v9 v10 σ)
def wp_X12_ringsAt_l89 (Q : Int → St → Prop) : Nat → Int → St → Prop
  | 0, _, _ => False
  | n + 1, x3, σ =>
    ((x3 ≥ 12) →
    wp_X12_ringsAt_l153 Q bigN 0 0 σ) ∧
    (¬ (x3 ≥ 12) →
    wp_X12_ringsAt_l98 Q (wp_X12_ringsAt_l89 Q n) bigN x3 0 σ)
def wp_X12_ringsAt_l23 (Q : Int → St → Prop) : Nat → Int → Int → Int → St → Prop
  | 0, _, _, _, _ => False
  | n + 1, x1, x2, x3, σ =>
    ((x3 ≥ σ 0 1) →
    wp_X12_ringsAt_l89 Q bigN 0 σ) ∧
    (¬ (x3 ≥ σ 0 1) →
    wp_X12_isSingle x3 σ (fun r3 σ4 =>
    ((r3 = 0) →
    wp_X12_ringsAt_b81 Q (wp_X12_ringsAt_l23 Q n) x1 x2 x3 σ4) ∧
    (¬ (r3 = 0) →
    ((x1 = (-1)) →
    wp_X12_ringsAt_b59 Q (wp_X12_ringsAt_l23 Q n) x1 x2 x3 σ4) ∧
    (¬ (x1 = (-1)) →
    (0 ≤ x3 ∧ x3 < 80) ∧
    wp_X12_has (σ4 2 (x3.toNat)) x1 x2 σ4 (fun r5 σ6 =>
    ((r5 = 0) →
    wp_X12_ringsAt_b81 Q (wp_X12_ringsAt_l23 Q n) x1 x2 x3 σ6) ∧
    (¬ (r5 = 0) →
    wp_X12_ringsAt_b59 Q (wp_X12_ringsAt_l23 Q n) x1 x2 x3 σ6))))))
def wp_X12_ringsAt_l2 (Q : Int → St → Prop) : Nat → Int → Int → Int → St → Prop
  | 0, _, _, _, _ => False
  | n + 1, x1, x2, x3, σ =>
    ((x3 ≥ 12) →
    wp_X12_ringsAt_l23 Q bigN x1 x2 0 σ) ∧
    (¬ (x3 ≥ 12) →
    (0 ≤ x3 ∧ x3 < 12) ∧ ∀ σ1 : St, σ1 = upS σ 19 x3.toNat 0 →
    ∀ v2 : Int, v2 = w32 (x3 + 1) →
    (wp_X12_ringsAt_l2 Q n) x1 x2 v2 σ1)
def wp_X12_ringsAt (x1 : Int) (x2 : Int) (σ : St) (Q : Int → St → Prop) : Prop :=
 wp_X12_ringsAt_l2 Q bigN x1 x2 0 σ
def wp_X12_isEndlessPart_b24 (Q : Int → St → Prop) (σ : St) : Prop :=
 Q 0 σ
def wp_X12_isEndlessPart (x1 : Int) (x2 : Int) (x3 : Int) (σ : St) (Q : Int → St → Prop) : Prop :=
 ((x1 ≥ 100) →
 wp_X12_isEndlessPart_b24 Q σ) ∧
 (¬ (x1 ≥ 100) →
 wp_X12_item x1 x2 x3 σ (fun r1 σ2 =>
 (0 ≤ r1 ∧ r1 < 768) ∧
 ((σ2 16 (r1.toNat) = 0) →
 wp_X12_isEndlessPart_b24 Q σ2) ∧
 (¬ (σ2 16 (r1.toNat) = 0) →
 Q 1 σ2)))
def wp_X12_goesOn_b44 (Q : Int → St → Prop) (σ : St) : Prop :=
 Q 0 σ
def wp_X12_goesOn_b123 (Q : Int → St → Prop) (K51 : Int → Int → Int → Int → St → Prop) (x1 : Int) (x2 : Int) (x3 : Int) (x4 : Int) (σ : St) : Prop :=
 ∀ v14 : Int, v14 = w32 (x4 + 1) →
 K51 x1 x2 x3 v14 σ
def wp_X12_goesOn_l51 (Q : Int → St → Prop) : Nat → Int → Int → Int → Int → St → Prop
  | 0, _, _, _, _, _ => False
  | n + 1, x1, x2, x3, x4, σ =>
    ((x4 ≥ x3) →
    Q 0 σ) ∧
    (¬ (x4 ≥ x3) →
    (0 ≤ x1 ∧ x1 < 80) ∧
    wp_X12_fits (σ 2 (x1.toNat)) x2 x4 σ (fun r6 σ7 =>
    ((r6 = 0) →
    wp_X12_goesOn_b123 Q (wp_X12_goesOn_l51 Q n) x1 x2 x3 x4 σ7) ∧
    (¬ (r6 = 0) →
    (0 ≤ x1 ∧ x1 < 80) ∧
    wp_X12_fits (σ7 3 (x1.toNat)) x4 x3 σ7 (fun r8 σ9 =>
    ((r8 = 0) →
    wp_X12_goesOn_b123 Q (wp_X12_goesOn_l51 Q n) x1 x2 x3 x4 σ9) ∧
    (¬ (r8 = 0) →
    (0 ≤ x1 ∧ x1 < 80) ∧
    wp_X12_isEndlessPart (σ9 2 (x1.toNat)) x2 x4 σ9 (fun r10 σ11 =>
    ((r10 ≠ 0) →
    Q 1 σ11) ∧
    (¬ (r10 ≠ 0) →
    (0 ≤ x1 ∧ x1 < 80) ∧
    wp_X12_isEndlessPart (σ11 3 (x1.toNat)) x4 x3 σ11 (fun r12 σ13 =>
    ((r12 = 0) →
    wp_X12_goesOn_b123 Q (wp_X12_goesOn_l51 Q n) x1 x2 x3 x4 σ13) ∧
    (¬ (r12 = 0) →
    Q 1 σ13)))))))))
def wp_X12_goesOn (x1 : Int) (x2 : Int) (x3 : Int) (σ : St) (Q : Int → St → Prop) : Prop :=
 (0 ≤ x1 ∧ x1 < 80) ∧
 ((σ 3 (x1.toNat) ≠ (-1)) →
 ∀ v1 : Int, v1 = w32 (x2 + 1) →
 wp_X12_goesOn_l51 Q bigN x1 x2 x3 v1 σ) ∧
 (¬ (σ 3 (x1.toNat) ≠ (-1)) →
 (0 ≤ x1 ∧ x1 < 80) ∧
 wp_X12_fits (σ 2 (x1.toNat)) x2 x3 σ (fun r2 σ3 =>
 ((r2 = 0) →
 wp_X12_goesOn_b44 Q σ3) ∧
 (¬ (r2 = 0) →
 (0 ≤ x1 ∧ x1 < 80) ∧
 wp_X12_isEndlessPart (σ3 2 (x1.toNat)) x2 x3 σ3 (fun r4 σ5 =>
 ((r4 = 0) →
 wp_X12_goesOn_b44 Q σ5) ∧
 (¬ (r4 = 0) →
 Q 1 σ5)))))
def wp_X12_laysEndlessSpan_b40 (Q : Int → St → Prop) (K10 : Int → Int → Int → Int → St → Prop) (x1 : Int) (x2 : Int) (x3 : Int) (x4 : Int) (σ : St) : Prop :=
 ∀ v6 : Int, v6 = w32 (x4 + 1) →
 K10 x1 x2 x3 v6 σ
def wp_X12_laysEndlessSpan_b133 (Q : Int → St → Prop) (K49 : Int → Int → Int → St → Prop) (K60 : Int → Int → Int → Int → St → Prop) (x1 : Int) (x2 : Int) (x4 : Int) (x5 : Int) (σ : St) : Prop :=
 ∀ v16 : Int, v16 = w32 (x5 + 1) →
 K60 x1 x2 x4 v16 σ
def wp_X12_laysEndlessSpan_l60 (Q : Int → St → Prop) (K49 : Int → Int → Int → St → Prop) : Nat → Int → Int → Int → Int → St → Prop
  | 0, _, _, _, _, _ => False
  | n + 1, x1, x2, x4, x5, σ =>
    ((x5 ≥ σ 0 1) →
    K49 x1 x2 x4 σ) ∧
    (¬ (x5 ≥ σ 0 1) →
    wp_X12_isIn x5 σ (fun r7 σ8 =>
    ((r7 = 0) →
    wp_X12_laysEndlessSpan_b133 Q K49 (wp_X12_laysEndlessSpan_l60 Q K49 n) x1 x2 x4 x5 σ8) ∧
    (¬ (r7 = 0) →
    (0 ≤ x5 ∧ x5 < 80) ∧
    wp_X12_item (σ8 1 (x5.toNat)) x1 x2 σ8 (fun r9 σ10 =>
    (0 ≤ r9 ∧ r9 < 768) ∧
    ((σ10 16 (r9.toNat) ≠ 0) →
    wp_X12_laysEndlessSpan_b133 Q K49 (wp_X12_laysEndlessSpan_l60 Q K49 n) x1 x2 x4 x5 σ10) ∧
    (¬ (σ10 16 (r9.toNat) ≠ 0) →
    wp_X12_goesOn x5 x1 x2 σ10 (fun r11 σ12 =>
    ((r11 ≠ 0) →
    (0 ≤ x5 ∧ x5 < 80) ∧
    wp_X12_item (σ12 1 (x5.toNat)) x1 x2 σ12 (fun r13 σ14 =>
    (0 ≤ r13 ∧ r13 < 768) ∧ ∀ σ15 : St, σ15 = upS σ14 16 r13.toNat (b_and 1 1) →
    wp_X12_laysEndlessSpan_b133 Q K49 (wp_X12_laysEndlessSpan_l60 Q K49 n) x1 x2 1 x5 σ15)) ∧
    (¬ (r11 ≠ 0) →
    wp_X12_laysEndlessSpan_b133 Q K49 (wp_X12_laysEndlessSpan_l60 Q K49 n) x1 x2 x4 x5 σ12)))))))
def wp_X12_laysEndlessSpan_l49 (Q : Int → St → Prop) : Nat → Int → Int → Int → St → Prop
  | 0, _, _, _, _ => False
  | n + 1, x1, x2, x4, σ =>
    ((x4 = 0) →
    Q 0 σ) ∧
    (¬ (x4 = 0) →
    wp_X12_laysEndlessSpan_l60 Q (wp_X12_laysEndlessSpan_l49 Q n) bigN x1 x2 0 0 σ)
def wp_X12_laysEndlessSpan_l10 (Q : Int → St → Prop) : Nat → Int → Int → Int → Int → St → Prop
  | 0, _, _, _, _, _ => False
  | n + 1, x1, x2, x3, x4, σ =>
    ((x4 ≥ 12) →
    wp_X12_laysEndlessSpan_l49 Q bigN x1 x2 1 σ) ∧
    (¬ (x4 ≥ 12) →
    ((b_and (b_shr x3 x4) 1 ≠ 1) →
    wp_X12_laysEndlessSpan_b40 Q (wp_X12_laysEndlessSpan_l10 Q n) x1 x2 x3 x4 σ) ∧
    (¬ (b_and (b_shr x3 x4) 1 ≠ 1) →
    wp_X12_item x4 x1 x2 σ (fun r3 σ4 =>
    (0 ≤ r3 ∧ r3 < 768) ∧ ∀ σ5 : St, σ5 = upS σ4 16 r3.toNat (b_and 1 1) →
    wp_X12_laysEndlessSpan_b40 Q (wp_X12_laysEndlessSpan_l10 Q n) x1 x2 x3 x4 σ5)))
def wp_X12_laysEndlessSpan (x1 : Int) (x2 : Int) (σ : St) (Q : Int → St → Prop) : Prop :=
 wp_X12_ringsAt x1 x2 σ (fun r1 σ2 =>
 wp_X12_laysEndlessSpan_l10 Q bigN x1 x2 r1 0 σ2)
def wp_X12_laysEndless_l41 (Q : Int → St → Prop) (K31 : Int → St → Prop) : Nat → Int → Int → St → Prop
  | 0, _, _, _ => False
  | n + 1, x1, x2, σ =>
    ((w32 (x2 + x1) > σ 0 27) →
    ∀ v4 : Int, v4 = w32 (x1 + 1) →
    K31 v4 σ) ∧
    (¬ (w32 (x2 + x1) > σ 0 27) →
    wp_X12_laysEndlessSpan x2 (w32 (x2 + x1)) σ (fun r5 σ6 =>
    ∀ v7 : Int, v7 = w32 (x2 + 1) →
    (wp_X12_laysEndless_l41 Q K31 n) x1 v7 σ6))
def wp_X12_laysEndless_l31 (Q : Int → St → Prop) : Nat → Int → St → Prop
  | 0, _, _ => False
  | n + 1, x1, σ =>
    ((x1 > σ 0 27) →
    Q 0 σ) ∧
    (¬ (x1 > σ 0 27) →
    wp_X12_laysEndless_l41 Q (wp_X12_laysEndless_l31 Q n) bigN x1 0 σ)
def wp_X12_laysEndless_l2 (Q : Int → St → Prop) : Nat → Int → St → Prop
  | 0, _, _ => False
  | n + 1, x1, σ =>
    ((x1 ≥ 768) →
    wp_X12_laysEndless_l31 Q bigN 1 σ) ∧
    (¬ (x1 ≥ 768) →
    (0 ≤ x1 ∧ x1 < 768) ∧ ∀ σ1 : St, σ1 = upS σ 16 x1.toNat (b_and 0 1) →
    (0 ≤ x1 ∧ x1 < 768) ∧ ∀ σ2 : St, σ2 = upS σ1 17 x1.toNat (b_and 0 1) →
    ∀ v3 : Int, v3 = w32 (x1 + 1) →
    (wp_X12_laysEndless_l2 Q n) v3 σ2)
def wp_X12_laysEndless (σ : St) (Q : Int → St → Prop) : Prop :=
 wp_X12_laysEndless_l2 Q bigN 0 σ
def wp_X12_waysPart (M : Int → Int → Int → St → (Int → St → Prop) → Prop) (x1 : Int) (x2 : Int) (x3 : Int) (σ : St) (Q : Int → St → Prop) : Prop :=
 wp_X12_fits x1 x2 x3 σ (fun r1 σ2 =>
 ((r1 ≠ 0) →
 ((x1 < 100) →
 M x1 x2 x3 σ2 (fun r3 σ4 =>
 Q r3 σ4)) ∧
 (¬ (x1 < 100) →
 Q 1 σ2)) ∧
 (¬ (r1 ≠ 0) →
 Q 0 σ2))
def wp_X12_plusGreat (x0 : Int) (x2 : Int) (σ : St) (Q : Int → St → Prop) : Prop :=
 Q (min 1000000000000001 (w64 (x0 + x2))) σ
def wp_X12_timesGreat (x0 : Int) (x2 : Int) (σ : St) (Q : Int → St → Prop) : Prop :=
 ((x0 = 0) →
 Q 0 σ) ∧
 (¬ (x0 = 0) →
 ((x2 ≠ 0) →
 x2 ≠ 0 ∧
 ((x0 ≤ l_div 1000000000000000 x2) →
 Q (w64 (x0 * x2)) σ) ∧
 (¬ (x0 ≤ l_div 1000000000000000 x2) →
 Q 1000000000000001 σ)) ∧
 (¬ (x2 ≠ 0) →
 Q 0 σ))
def wp_X12_waysItem_b189 (M : Int → Int → Int → St → (Int → St → Prop) → Prop) (Q : Int → St → Prop) (K32 : Int → Int → Int → Int → Int → Int → St → Prop) (K100 : Int → Int → Int → Int → Int → Int → Int → St → Prop) (x1 : Int) (x2 : Int) (x3 : Int) (x4 : Int) (x5 : Int) (x7 : Int) (x8 : Int) (σ : St) : Prop :=
 ∀ v25 : Int, v25 = w32 (x8 + 1) →
 K100 x1 x2 x3 x4 x5 x7 v25 σ
def wp_X12_waysItem_b195 (M : Int → Int → Int → St → (Int → St → Prop) → Prop) (Q : Int → St → Prop) (K32 : Int → Int → Int → Int → Int → Int → St → Prop) (x1 : Int) (x2 : Int) (x3 : Int) (x4 : Int) (x5 : Int) (x7 : Int) (σ : St) : Prop :=
 ∀ v11 : Int, v11 = w32 (x7 + 1) →
 K32 x1 x2 x3 x4 x5 v11 σ
def wp_X12_waysItem_l100 (M : Int → Int → Int → St → (Int → St → Prop) → Prop) (Q : Int → St → Prop) (K32 : Int → Int → Int → Int → Int → Int → St → Prop) : Nat → Int → Int → Int → Int → Int → Int → Int → St → Prop
  | 0, _, _, _, _, _, _, _, _ => False
  | n + 1, x1, x2, x3, x4, x5, x7, x8, σ =>
    ((x8 ≥ x3) →
    wp_X12_waysItem_b195 M Q K32 x1 x2 x3 x4 x5 x7 σ) ∧
    (¬ (x8 ≥ x3) →
    (0 ≤ x7 ∧ x7 < 80) ∧
    ((σ 3 (x7.toNat) = (-1)) →
    wp_X12_waysItem_b195 M Q K32 x1 x2 x3 x4 x5 x7 σ) ∧
    (¬ (σ 3 (x7.toNat) = (-1)) →
    (0 ≤ x7 ∧ x7 < 80) ∧
    wp_X12_fits (σ 2 (x7.toNat)) x2 x8 σ (fun r13 σ14 =>
    ((r13 = 0) →
    wp_X12_waysItem_b189 M Q K32 (wp_X12_waysItem_l100 M Q K32 n) x1 x2 x3 x4 x5 x7 x8 σ14) ∧
    (¬ (r13 = 0) →
    (0 ≤ x7 ∧ x7 < 80) ∧
    wp_X12_fits (σ14 3 (x7.toNat)) x8 x3 σ14 (fun r15 σ16 =>
    ((r15 = 0) →
    wp_X12_waysItem_b189 M Q K32 (wp_X12_waysItem_l100 M Q K32 n) x1 x2 x3 x4 x5 x7 x8 σ16) ∧
    (¬ (r15 = 0) →
    (0 ≤ x7 ∧ x7 < 80) ∧
    wp_X12_waysPart M (σ16 2 (x7.toNat)) x2 x8 σ16 (fun r17 σ18 =>
    (0 ≤ x7 ∧ x7 < 80) ∧
    wp_X12_waysPart M (σ18 3 (x7.toNat)) x8 x3 σ18 (fun r19 σ20 =>
    wp_X12_timesGreat r17 r19 σ20 (fun r21 σ22 =>
    wp_X12_plusGreat x5 r21 σ22 (fun r23 σ24 =>
    wp_X12_waysItem_b189 M Q K32 (wp_X12_waysItem_l100 M Q K32 n) x1 x2 x3 x4 r23 x7 x8 σ24))))))))))
def wp_X12_waysItem_b95 (M : Int → Int → Int → St → (Int → St → Prop) → Prop) (Q : Int → St → Prop) (K32 : Int → Int → Int → Int → Int → Int → St → Prop) (x1 : Int) (x2 : Int) (x3 : Int) (x4 : Int) (x5 : Int) (x7 : Int) (σ : St) : Prop :=
 ∀ v12 : Int, v12 = w32 (x2 + 1) →
 wp_X12_waysItem_l100 M Q K32 bigN x1 x2 x3 x4 x5 x7 v12 σ
def wp_X12_waysItem_l32 (M : Int → Int → Int → St → (Int → St → Prop) → Prop) (Q : Int → St → Prop) : Nat → Int → Int → Int → Int → Int → Int → St → Prop
  | 0, _, _, _, _, _, _, _ => False
  | n + 1, x1, x2, x3, x4, x5, x7, σ =>
    ((x7 ≥ σ 0 1) →
    (0 ≤ x4 ∧ x4 < 768) ∧ ∀ σ3 : St, σ3 = upS σ 17 x4.toNat (b_and 1 1) →
    (0 ≤ x4 ∧ x4 < 768) ∧ ∀ σ4 : St, σ4 = upS σ3 18 x4.toNat x5 →
    Q x5 σ4) ∧
    (¬ (x7 ≥ σ 0 1) →
    wp_X12_isIn x7 σ (fun r5 σ6 =>
    ((r5 = 0) →
    wp_X12_waysItem_b195 M Q (wp_X12_waysItem_l32 M Q n) x1 x2 x3 x4 x5 x7 σ6) ∧
    (¬ (r5 = 0) →
    (0 ≤ x7 ∧ x7 < 80) ∧
    ((σ6 1 (x7.toNat) = x1) →
    (0 ≤ x7 ∧ x7 < 80) ∧
    ((σ6 3 (x7.toNat) ≠ (-1)) →
    wp_X12_waysItem_b95 M Q (wp_X12_waysItem_l32 M Q n) x1 x2 x3 x4 x5 x7 σ6) ∧
    (¬ (σ6 3 (x7.toNat) ≠ (-1)) →
    (0 ≤ x7 ∧ x7 < 80) ∧
    wp_X12_waysPart M (σ6 2 (x7.toNat)) x2 x3 σ6 (fun r7 σ8 =>
    wp_X12_plusGreat x5 r7 σ8 (fun r9 σ10 =>
    wp_X12_waysItem_b95 M Q (wp_X12_waysItem_l32 M Q n) x1 x2 x3 x4 r9 x7 σ10)))) ∧
    (¬ (σ6 1 (x7.toNat) = x1) →
    wp_X12_waysItem_b195 M Q (wp_X12_waysItem_l32 M Q n) x1 x2 x3 x4 x5 x7 σ6))))
def wp_X12_waysItem : Nat → Int → Int → Int → St → (Int → St → Prop) → Prop
  | 0, _, _, _, _, _ => False
  | d + 1, x1, x2, x3, σ, Q =>
    wp_X12_item x1 x2 x3 σ (fun r1 σ2 =>
    (0 ≤ r1 ∧ r1 < 768) ∧
    ((σ2 17 (r1.toNat) = 0) →
    wp_X12_waysItem_l32 (wp_X12_waysItem d) Q bigN x1 x2 x3 r1 0 0 σ2) ∧
    (¬ (σ2 17 (r1.toNat) = 0) →
    (0 ≤ r1 ∧ r1 < 768) ∧
    Q (σ2 18 (r1.toNat)) σ2))
def wp_X12_ways (x1 : Int) (x2 : Int) (x3 : Int) (σ : St) (Q : Int → St → Prop) : Prop :=
 wp_X12_isItem x1 x2 x3 σ (fun r1 σ2 =>
 ((r1 ≠ 0) →
 wp_X12_looks σ2 (fun r3 σ4 =>
 wp_X12_laysEndless σ4 (fun r5 σ6 =>
 wp_X12_item x1 x2 x3 σ6 (fun r7 σ8 =>
 (0 ≤ r7 ∧ r7 < 768) ∧
 ((σ8 16 (r7.toNat) = 0) →
 wp_X12_waysItem 120 x1 x2 x3 σ8 (fun r9 σ10 =>
 ((r9 ≤ 1000000000000000) →
 Q r9 σ10) ∧
 (¬ (r9 ≤ 1000000000000000) →
 Q ((-3)) σ10))) ∧
 (¬ (σ8 16 (r7.toNat) = 0) →
 Q ((-5)) σ8))))) ∧
 (¬ (r1 ≠ 0) →
 Q ((-2)) σ2))
def wp_X12_dearPart (x1 : Int) (x2 : Int) (x3 : Int) (σ : St) (Q : Int → St → Prop) : Prop :=
 ((x1 < 100) →
 wp_X12_item x1 x2 x3 σ (fun r1 σ2 =>
 (0 ≤ r1 ∧ r1 < 768) ∧
 Q (σ2 20 (r1.toNat)) σ2)) ∧
 (¬ (x1 < 100) →
 wp_X12_fits x1 x2 x3 σ (fun r3 σ4 =>
 ((r3 = 0) →
 Q 1000000000 σ4) ∧
 (¬ (r3 = 0) →
 Q 0 σ4)))
def wp_X12_lowersDear_b92 (Q : Int → St → Prop) (x1 : Int) (x2 : Int) (x3 : Int) (x4 : Int) (σ : St) : Prop :=
 (0 ≤ x1 ∧ x1 < 80) ∧
 ∀ v10 : Int, v10 = max x4 (σ 4 (x1.toNat)) →
 (0 ≤ x1 ∧ x1 < 80) ∧
 wp_X12_item (σ 1 (x1.toNat)) x2 x3 σ (fun r11 σ12 =>
 (0 ≤ r11 ∧ r11 < 768) ∧
 ((v10 < σ12 20 (r11.toNat)) →
 (0 ≤ x1 ∧ x1 < 80) ∧
 wp_X12_item (σ12 1 (x1.toNat)) x2 x3 σ12 (fun r13 σ14 =>
 (0 ≤ r13 ∧ r13 < 768) ∧ ∀ σ15 : St, σ15 = upS σ14 20 r13.toNat v10 →
 Q 1 σ15)) ∧
 (¬ (v10 < σ12 20 (r11.toNat)) →
 Q 0 σ12))
def wp_X12_lowersDear_l34 (Q : Int → St → Prop) : Nat → Int → Int → Int → Int → Int → St → Prop
  | 0, _, _, _, _, _, _ => False
  | n + 1, x1, x2, x3, x4, x5, σ =>
    ((x5 ≥ x3) →
    wp_X12_lowersDear_b92 Q x1 x2 x3 x4 σ) ∧
    (¬ (x5 ≥ x3) →
    (0 ≤ x1 ∧ x1 < 80) ∧
    ((σ 3 (x1.toNat) = (-1)) →
    wp_X12_lowersDear_b92 Q x1 x2 x3 x4 σ) ∧
    (¬ (σ 3 (x1.toNat) = (-1)) →
    (0 ≤ x1 ∧ x1 < 80) ∧
    wp_X12_dearPart (σ 2 (x1.toNat)) x2 x5 σ (fun r4 σ5 =>
    (0 ≤ x1 ∧ x1 < 80) ∧
    wp_X12_dearPart (σ5 3 (x1.toNat)) x5 x3 σ5 (fun r6 σ7 =>
    ∀ v8 : Int, v8 = min x4 (max r4 r6) →
    ∀ v9 : Int, v9 = w32 (x5 + 1) →
    (wp_X12_lowersDear_l34 Q n) x1 x2 x3 v8 v9 σ7))))
def wp_X12_lowersDear_b29 (Q : Int → St → Prop) (x1 : Int) (x2 : Int) (x3 : Int) (x4 : Int) (σ : St) : Prop :=
 ∀ v3 : Int, v3 = w32 (x2 + 1) →
 wp_X12_lowersDear_l34 Q bigN x1 x2 x3 x4 v3 σ
def wp_X12_lowersDear (x1 : Int) (x2 : Int) (x3 : Int) (σ : St) (Q : Int → St → Prop) : Prop :=
 (0 ≤ x1 ∧ x1 < 80) ∧
 ((σ 3 (x1.toNat) ≠ (-1)) →
 wp_X12_lowersDear_b29 Q x1 x2 x3 1000000000 σ) ∧
 (¬ (σ 3 (x1.toNat) ≠ (-1)) →
 (0 ≤ x1 ∧ x1 < 80) ∧
 wp_X12_dearPart (σ 2 (x1.toNat)) x2 x3 σ (fun r1 σ2 =>
 wp_X12_lowersDear_b29 Q x1 x2 x3 r1 σ2))
def wp_X12_laysDear_b50 (Q : Int → St → Prop) (K2 : Int → Int → Int → St → Prop) (K11 : Int → Int → Int → Int → St → Prop) (x1 : Int) (x2 : Int) (x3 : Int) (x4 : Int) (σ : St) : Prop :=
 ∀ v5 : Int, v5 = w32 (x4 + 1) →
 K11 x1 x2 x3 v5 σ
def wp_X12_laysDear_b49 (Q : Int → St → Prop) (K2 : Int → Int → Int → St → Prop) (K11 : Int → Int → Int → Int → St → Prop) (x1 : Int) (x2 : Int) (x4 : Int) (s0 : Int) (σ : St) : Prop :=
 wp_X12_laysDear_b50 Q K2 K11 x1 x2 s0 x4 σ
def wp_X12_laysDear_b44 (Q : Int → St → Prop) (K2 : Int → Int → Int → St → Prop) (K11 : Int → Int → Int → Int → St → Prop) (x1 : Int) (x2 : Int) (x4 : Int) (σ : St) : Prop :=
 wp_X12_laysDear_b49 Q K2 K11 x1 x2 x4 1 σ
def wp_X12_laysDear_l11 (Q : Int → St → Prop) (K2 : Int → Int → Int → St → Prop) : Nat → Int → Int → Int → Int → St → Prop
  | 0, _, _, _, _, _ => False
  | n + 1, x1, x2, x3, x4, σ =>
    ((x4 ≥ σ 0 1) →
    K2 x1 x2 x3 σ) ∧
    (¬ (x4 ≥ σ 0 1) →
    wp_X12_isIn x4 σ (fun r1 σ2 =>
    ((r1 = 0) →
    wp_X12_laysDear_b50 Q K2 (wp_X12_laysDear_l11 Q K2 n) x1 x2 x3 x4 σ2) ∧
    (¬ (r1 = 0) →
    wp_X12_lowersDear x4 x1 x2 σ2 (fun r3 σ4 =>
    ((r3 ≠ 0) →
    wp_X12_laysDear_b44 Q K2 (wp_X12_laysDear_l11 Q K2 n) x1 x2 x4 σ4) ∧
    (¬ (r3 ≠ 0) →
    ((x3 = 0) →
    wp_X12_laysDear_b49 Q K2 (wp_X12_laysDear_l11 Q K2 n) x1 x2 x4 0 σ4) ∧
    (¬ (x3 = 0) →
    wp_X12_laysDear_b44 Q K2 (wp_X12_laysDear_l11 Q K2 n) x1 x2 x4 σ4))))))
def wp_X12_laysDear_l2 (Q : Int → St → Prop) : Nat → Int → Int → Int → St → Prop
  | 0, _, _, _, _ => False
  | n + 1, x1, x2, x3, σ =>
    ((x3 = 0) →
    Q 0 σ) ∧
    (¬ (x3 = 0) →
    wp_X12_laysDear_l11 Q (wp_X12_laysDear_l2 Q n) bigN x1 x2 0 0 σ)
def wp_X12_laysDear (x1 : Int) (x2 : Int) (σ : St) (Q : Int → St → Prop) : Prop :=
 wp_X12_laysDear_l2 Q bigN x1 x2 1 σ
def wp_X12_dearest_l59 (Q : Int → St → Prop) (K47 : Int → Int → Int → Int → St → Prop) : Nat → Int → Int → Int → Int → Int → St → Prop
  | 0, _, _, _, _, _, _ => False
  | n + 1, x1, x2, x3, x4, x5, σ =>
    ((w32 (x5 + x4) > σ 0 27) →
    ∀ v11 : Int, v11 = w32 (x4 + 1) →
    K47 x1 x2 x3 v11 σ) ∧
    (¬ (w32 (x5 + x4) > σ 0 27) →
    wp_X12_laysDear x5 (w32 (x5 + x4)) σ (fun r12 σ13 =>
    ∀ v14 : Int, v14 = w32 (x5 + 1) →
    (wp_X12_dearest_l59 Q K47 n) x1 x2 x3 x4 v14 σ13))
def wp_X12_dearest_l47 (Q : Int → St → Prop) : Nat → Int → Int → Int → Int → St → Prop
  | 0, _, _, _, _, _ => False
  | n + 1, x1, x2, x3, x4, σ =>
    ((x4 > σ 0 27) →
    wp_X12_has x1 x2 x3 σ (fun r7 σ8 =>
    ((r7 = 0) →
    Q ((-1)) σ8) ∧
    (¬ (r7 = 0) →
    wp_X12_item x1 x2 x3 σ8 (fun r9 σ10 =>
    (0 ≤ r9 ∧ r9 < 768) ∧
    Q (σ10 20 (r9.toNat)) σ10)))) ∧
    (¬ (x4 > σ 0 27) →
    wp_X12_dearest_l59 Q (wp_X12_dearest_l47 Q n) bigN x1 x2 x3 x4 0 σ)
def wp_X12_dearest_l20 (Q : Int → St → Prop) : Nat → Int → Int → Int → Int → St → Prop
  | 0, _, _, _, _, _ => False
  | n + 1, x1, x2, x3, x4, σ =>
    ((x4 ≥ 768) →
    wp_X12_dearest_l47 Q bigN x1 x2 x3 1 σ) ∧
    (¬ (x4 ≥ 768) →
    (0 ≤ x4 ∧ x4 < 768) ∧ ∀ σ5 : St, σ5 = upS σ 20 x4.toNat 1000000000 →
    ∀ v6 : Int, v6 = w32 (x4 + 1) →
    (wp_X12_dearest_l20 Q n) x1 x2 x3 v6 σ5)
def wp_X12_dearest (x1 : Int) (x2 : Int) (x3 : Int) (σ : St) (Q : Int → St → Prop) : Prop :=
 wp_X12_isItem x1 x2 x3 σ (fun r1 σ2 =>
 ((r1 ≠ 0) →
 wp_X12_looks σ2 (fun r3 σ4 =>
 wp_X12_dearest_l20 Q bigN x1 x2 x3 0 σ4)) ∧
 (¬ (r1 ≠ 0) →
 Q ((-2)) σ2))
def wp_X12_meetsPart (M : Int → Int → Int → St → (Int → St → Prop) → Prop) (x1 : Int) (x2 : Int) (x3 : Int) (σ : St) (Q : Int → St → Prop) : Prop :=
 ((x1 ≥ 100) →
 Q 0 σ) ∧
 (¬ (x1 ≥ 100) →
 M x1 x2 x3 σ (fun r1 σ2 =>
 Q 0 σ2))
def wp_X12_meets_b215 (M : Int → Int → Int → St → (Int → St → Prop) → Prop) (Q : Int → St → Prop) (K30 : Int → Int → Int → Int → St → Prop) (K120 : Int → Int → Int → Int → Int → St → Prop) (x1 : Int) (x2 : Int) (x3 : Int) (x5 : Int) (x6 : Int) (σ : St) : Prop :=
 ∀ v22 : Int, v22 = w32 (x6 + 1) →
 K120 x1 x2 x3 x5 v22 σ
def wp_X12_meets_b221 (M : Int → Int → Int → St → (Int → St → Prop) → Prop) (Q : Int → St → Prop) (K30 : Int → Int → Int → Int → St → Prop) (x1 : Int) (x2 : Int) (x3 : Int) (x5 : Int) (σ : St) : Prop :=
 ∀ v11 : Int, v11 = w32 (x5 + 1) →
 K30 x1 x2 x3 v11 σ
def wp_X12_meets_l120 (M : Int → Int → Int → St → (Int → St → Prop) → Prop) (Q : Int → St → Prop) (K30 : Int → Int → Int → Int → St → Prop) : Nat → Int → Int → Int → Int → Int → St → Prop
  | 0, _, _, _, _, _, _ => False
  | n + 1, x1, x2, x3, x5, x6, σ =>
    ((x6 ≥ x3) →
    wp_X12_meets_b221 M Q K30 x1 x2 x3 x5 σ) ∧
    (¬ (x6 ≥ x3) →
    (0 ≤ x5 ∧ x5 < 80) ∧
    ((σ 3 (x5.toNat) = (-1)) →
    wp_X12_meets_b221 M Q K30 x1 x2 x3 x5 σ) ∧
    (¬ (σ 3 (x5.toNat) = (-1)) →
    (0 ≤ x5 ∧ x5 < 80) ∧
    wp_X12_fits (σ 2 (x5.toNat)) x2 x6 σ (fun r13 σ14 =>
    ((r13 = 0) →
    wp_X12_meets_b215 M Q K30 (wp_X12_meets_l120 M Q K30 n) x1 x2 x3 x5 x6 σ14) ∧
    (¬ (r13 = 0) →
    (0 ≤ x5 ∧ x5 < 80) ∧
    wp_X12_fits (σ14 3 (x5.toNat)) x6 x3 σ14 (fun r15 σ16 =>
    ((r15 ≠ 0) →
    ∀ σ17 : St, σ17 = upS σ16 0 36 (l_or (σ16 0 36) (l_shl 1 x5)) →
    (0 ≤ x5 ∧ x5 < 80) ∧
    wp_X12_meetsPart M (σ17 2 (x5.toNat)) x2 x6 σ17 (fun r18 σ19 =>
    (0 ≤ x5 ∧ x5 < 80) ∧
    wp_X12_meetsPart M (σ19 3 (x5.toNat)) x6 x3 σ19 (fun r20 σ21 =>
    wp_X12_meets_b215 M Q K30 (wp_X12_meets_l120 M Q K30 n) x1 x2 x3 x5 x6 σ21))) ∧
    (¬ (r15 ≠ 0) →
    wp_X12_meets_b215 M Q K30 (wp_X12_meets_l120 M Q K30 n) x1 x2 x3 x5 x6 σ16))))))
def wp_X12_meets_b115 (M : Int → Int → Int → St → (Int → St → Prop) → Prop) (Q : Int → St → Prop) (K30 : Int → Int → Int → Int → St → Prop) (x1 : Int) (x2 : Int) (x3 : Int) (x5 : Int) (σ : St) : Prop :=
 ∀ v12 : Int, v12 = w32 (x2 + 1) →
 wp_X12_meets_l120 M Q K30 bigN x1 x2 x3 x5 v12 σ
def wp_X12_meets_l30 (M : Int → Int → Int → St → (Int → St → Prop) → Prop) (Q : Int → St → Prop) : Nat → Int → Int → Int → Int → St → Prop
  | 0, _, _, _, _, _ => False
  | n + 1, x1, x2, x3, x5, σ =>
    ((x5 ≥ σ 0 1) →
    Q 0 σ) ∧
    (¬ (x5 ≥ σ 0 1) →
    wp_X12_isIn x5 σ (fun r4 σ5 =>
    ((r4 = 0) →
    wp_X12_meets_b221 M Q (wp_X12_meets_l30 M Q n) x1 x2 x3 x5 σ5) ∧
    (¬ (r4 = 0) →
    (0 ≤ x5 ∧ x5 < 80) ∧
    ((σ5 1 (x5.toNat) = x1) →
    (0 ≤ x5 ∧ x5 < 80) ∧
    ((σ5 3 (x5.toNat) ≠ (-1)) →
    wp_X12_meets_b115 M Q (wp_X12_meets_l30 M Q n) x1 x2 x3 x5 σ5) ∧
    (¬ (σ5 3 (x5.toNat) ≠ (-1)) →
    (0 ≤ x5 ∧ x5 < 80) ∧
    wp_X12_fits (σ5 2 (x5.toNat)) x2 x3 σ5 (fun r6 σ7 =>
    ((r6 = 0) →
    wp_X12_meets_b115 M Q (wp_X12_meets_l30 M Q n) x1 x2 x3 x5 σ7) ∧
    (¬ (r6 = 0) →
    ∀ σ8 : St, σ8 = upS σ7 0 36 (l_or (σ7 0 36) (l_shl 1 x5)) →
    (0 ≤ x5 ∧ x5 < 80) ∧
    wp_X12_meetsPart M (σ8 2 (x5.toNat)) x2 x3 σ8 (fun r9 σ10 =>
    wp_X12_meets_b115 M Q (wp_X12_meets_l30 M Q n) x1 x2 x3 x5 σ10))))) ∧
    (¬ (σ5 1 (x5.toNat) = x1) →
    wp_X12_meets_b221 M Q (wp_X12_meets_l30 M Q n) x1 x2 x3 x5 σ5))))
def wp_X12_meets : Nat → Int → Int → Int → St → (Int → St → Prop) → Prop
  | 0, _, _, _, _, _ => False
  | d + 1, x1, x2, x3, σ, Q =>
    wp_X12_item x1 x2 x3 σ (fun r1 σ2 =>
    (0 ≤ r1 ∧ r1 < 768) ∧
    ((σ2 21 (r1.toNat) = 0) →
    (0 ≤ r1 ∧ r1 < 768) ∧ ∀ σ3 : St, σ3 = upS σ2 21 r1.toNat (b_and 1 1) →
    wp_X12_meets_l30 (wp_X12_meets d) Q bigN x1 x2 x3 0 σ3) ∧
    (¬ (σ2 21 (r1.toNat) = 0) →
    Q 0 σ2))
def wp_X12_used_b135 (Q : Int → St → Prop) (K94 : Int → Int → Int → Int → Int → St → Prop) (x1 : Int) (x2 : Int) (x3 : Int) (x5 : Int) (x7 : Int) (σ : St) : Prop :=
 ∀ v19 : Int, v19 = w32 (x7 + 1) →
 K94 x1 x2 x3 x5 v19 σ
def wp_X12_used_l94 (Q : Int → St → Prop) : Nat → Int → Int → Int → Int → Int → St → Prop
  | 0, _, _, _, _, _, _ => False
  | n + 1, x1, x2, x3, x5, x7, σ =>
    ((x7 ≥ σ 0 1) →
    Q x5 σ) ∧
    (¬ (x7 ≥ σ 0 1) →
    wp_X12_laysLeast (l_or (σ 0 2) (l_shl 1 x7)) σ (fun r14 σ15 =>
    wp_X12_has x1 x2 x3 σ15 (fun r16 σ17 =>
    ((r16 ≠ 0) →
    wp_X12_used_b135 Q (wp_X12_used_l94 Q n) x1 x2 x3 x5 x7 σ17) ∧
    (¬ (r16 ≠ 0) →
    ∀ v18 : Int, v18 = l_or x5 (l_shl 1 x7) →
    wp_X12_used_b135 Q (wp_X12_used_l94 Q n) x1 x2 x3 v18 x7 σ17))))
def wp_X12_used_l49 (Q : Int → St → Prop) : Nat → Int → Int → Int → Int → Int → St → Prop
  | 0, _, _, _, _, _, _ => False
  | n + 1, x1, x2, x3, x4, x5, σ =>
    ((x5 ≥ 768) →
    ((x4 ≠ 0) →
    wp_X12_used_l94 Q bigN x1 x2 x3 0 0 σ) ∧
    (¬ (x4 ≠ 0) →
    wp_X12_meets 440 x1 x2 x3 σ (fun r10 σ11 =>
    Q (σ11 0 36) σ11))) ∧
    (¬ (x5 ≥ 768) →
    (0 ≤ x5 ∧ x5 < 768) ∧ ∀ σ12 : St, σ12 = upS σ 21 x5.toNat (b_and 0 1) →
    ∀ v13 : Int, v13 = w32 (x5 + 1) →
    (wp_X12_used_l49 Q n) x1 x2 x3 x4 v13 σ12)
def wp_X12_used (x1 : Int) (x2 : Int) (x3 : Int) (x4 : Int) (σ : St) (Q : Int → St → Prop) : Prop :=
 wp_X12_isItem x1 x2 x3 σ (fun r1 σ2 =>
 ((r1 = 0) →
 Q ((-2)) σ2) ∧
 (¬ (r1 = 0) →
 wp_X12_in x4 0 1 σ2 (fun r3 σ4 =>
 ((r3 ≠ 0) →
 wp_X12_looks σ4 (fun r5 σ6 =>
 wp_X12_has x1 x2 x3 σ6 (fun r7 σ8 =>
 ((r7 ≠ 0) →
 ∀ σ9 : St, σ9 = upS σ8 0 36 0 →
 wp_X12_used_l49 Q bigN x1 x2 x3 x4 0 σ9) ∧
 (¬ (r7 ≠ 0) →
 Q 0 σ8)))) ∧
 (¬ (r3 ≠ 0) →
 Q ((-2)) σ4))))
def wp_X12_span (x0 : Int) (x1 : Int) (σ : St) (Q : Int → St → Prop) : Prop :=
 Q (w32 ((w32 ((w32 (x0 * 8)) + x1)) - 1)) σ
def wp_X12_rowOf_l2 (Q : Int → St → Prop) : Nat → Int → Int → St → Prop
  | 0, _, _, _ => False
  | n + 1, x1, x2, σ =>
    (0 ≤ x2 ∧ x2 < 12) ∧
    ((σ 25 (x2.toNat) = x1) →
    Q x2 σ) ∧
    (¬ (σ 25 (x2.toNat) = x1) →
    ∀ v1 : Int, v1 = w32 (x2 + 1) →
    (wp_X12_rowOf_l2 Q n) x1 v1 σ)
def wp_X12_rowOf (x1 : Int) (σ : St) (Q : Int → St → Prop) : Prop :=
 wp_X12_rowOf_l2 Q bigN x1 0 σ
def wp_X12_failsPart_b23 (Q : Int → St → Prop) (σ : St) : Prop :=
 Q 0 σ
def wp_X12_failsPart (x1 : Int) (x2 : Int) (x3 : Int) (σ : St) (Q : Int → St → Prop) : Prop :=
 ((x1 ≥ 100) →
 wp_X12_failsPart_b23 Q σ) ∧
 (¬ (x1 ≥ 100) →
 wp_X12_span x2 x3 σ (fun r1 σ2 =>
 (0 ≤ r1 ∧ r1 < 64) ∧
 ((σ2 23 (r1.toNat) = 0) →
 wp_X12_failsPart_b23 Q σ2) ∧
 (¬ (σ2 23 (r1.toNat) = 0) →
 Q 1 σ2)))
def wp_X12_sumPart (x1 : Int) (x2 : Int) (x3 : Int) (σ : St) (Q : Int → St → Prop) : Prop :=
 ((x1 < 100) →
 wp_X12_item x1 x2 x3 σ (fun r1 σ2 =>
 (0 ≤ r1 ∧ r1 < 768) ∧
 Q (σ2 22 (r1.toNat)) σ2)) ∧
 (¬ (x1 < 100) →
 Q 1 σ)
def wp_X12_brings_b113 (Q : Int → St → Prop) (s0 : Int) (s1 : Int) (s2 : Int) (σ : St) : Prop :=
 (0 ≤ s2 ∧ s2 < 156) ∧ ∀ σ23 : St, σ23 = upS σ 24 s2.toNat (w64 (s1 + s0)) →
 Q 1 σ23
def wp_X12_brings_b68 (Q : Int → St → Prop) (x1 : Int) (x4 : Int) (s0 : Int) (σ : St) : Prop :=
 (0 ≤ w32 (x4 + s0) ∧ w32 (x4 + s0) < 156) ∧
 (0 ≤ x1 ∧ x1 < 80) ∧
 ((σ 2 (x1.toNat) < 100) →
 (0 ≤ x1 ∧ x1 < 80) ∧
 wp_X12_brings_b113 Q (w32 (9973 - (σ 4 (x1.toNat)))) (σ 24 ((w32 (x4 + s0)).toNat)) (w32 (x4 + s0)) σ) ∧
 (¬ (σ 2 (x1.toNat) < 100) →
 (0 ≤ x1 ∧ x1 < 80) ∧
 wp_X12_brings_b113 Q (σ 4 (x1.toNat)) (σ 24 ((w32 (x4 + s0)).toNat)) (w32 (x4 + s0)) σ)
def wp_X12_brings_b266 (Q : Int → St → Prop) (K125 : Int → Int → Int → Int → Int → Int → St → Prop) (x1 : Int) (x2 : Int) (x3 : Int) (x4 : Int) (x5 : Int) (x6 : Int) (σ : St) : Prop :=
 ∀ v17 : Int, v17 = w32 (x6 + 1) →
 K125 x1 x2 x3 x4 x5 v17 σ
def wp_X12_brings_b208 (Q : Int → St → Prop) (K125 : Int → Int → Int → Int → Int → Int → St → Prop) (x1 : Int) (x2 : Int) (x3 : Int) (x4 : Int) (x6 : Int) (s0 : Int) (σ : St) : Prop :=
 (0 ≤ w32 (x4 + 12) ∧ w32 (x4 + 12) < 156) ∧
 (0 ≤ x1 ∧ x1 < 80) ∧
 (0 ≤ x1 ∧ x1 < 80) ∧
 wp_X12_sumPart (σ 2 (x1.toNat)) x2 x6 σ (fun r18 σ19 =>
 (0 ≤ x1 ∧ x1 < 80) ∧
 wp_X12_sumPart (σ19 3 (x1.toNat)) x6 x3 σ19 (fun r20 σ21 =>
 (0 ≤ w32 (x4 + 12) ∧ w32 (x4 + 12) < 156) ∧ ∀ σ22 : St, σ22 = upS σ21 24 (w32 (x4 + 12)).toNat (w64 ((σ 24 ((w32 (x4 + 12)).toNat)) + (l_rem (w64 ((l_rem (w64 ((σ 4 (x1.toNat)) * r18)) 9973) * r20)) 9973))) →
 wp_X12_brings_b266 Q K125 x1 x2 x3 x4 s0 x6 σ22))
def wp_X12_brings_b207 (Q : Int → St → Prop) (K125 : Int → Int → Int → Int → Int → Int → St → Prop) (x1 : Int) (x2 : Int) (x3 : Int) (x4 : Int) (x6 : Int) (σ : St) : Prop :=
 wp_X12_brings_b208 Q K125 x1 x2 x3 x4 x6 0 σ
def wp_X12_brings_l125 (Q : Int → St → Prop) : Nat → Int → Int → Int → Int → Int → Int → St → Prop
  | 0, _, _, _, _, _, _, _ => False
  | n + 1, x1, x2, x3, x4, x5, x6, σ =>
    ((x6 ≥ x3) →
    (x5 = 0 ∨ x5 = 1) ∧ Q x5 σ) ∧
    (¬ (x6 ≥ x3) →
    (0 ≤ x1 ∧ x1 < 80) ∧
    wp_X12_fits (σ 2 (x1.toNat)) x2 x6 σ (fun r9 σ10 =>
    ((r9 = 0) →
    wp_X12_brings_b266 Q (wp_X12_brings_l125 Q n) x1 x2 x3 x4 x5 x6 σ10) ∧
    (¬ (r9 = 0) →
    (0 ≤ x1 ∧ x1 < 80) ∧
    wp_X12_fits (σ10 3 (x1.toNat)) x6 x3 σ10 (fun r11 σ12 =>
    ((r11 ≠ 0) →
    ((x5 = 0) →
    wp_X12_brings_b207 Q (wp_X12_brings_l125 Q n) x1 x2 x3 x4 x6 σ12) ∧
    (¬ (x5 = 0) →
    (0 ≤ x1 ∧ x1 < 80) ∧
    wp_X12_failsPart (σ12 2 (x1.toNat)) x2 x6 σ12 (fun r13 σ14 =>
    ((r13 ≠ 0) →
    wp_X12_brings_b207 Q (wp_X12_brings_l125 Q n) x1 x2 x3 x4 x6 σ14) ∧
    (¬ (r13 ≠ 0) →
    (0 ≤ x1 ∧ x1 < 80) ∧
    wp_X12_failsPart (σ14 3 (x1.toNat)) x6 x3 σ14 (fun r15 σ16 =>
    ((r15 ≠ 0) →
    wp_X12_brings_b207 Q (wp_X12_brings_l125 Q n) x1 x2 x3 x4 x6 σ16) ∧
    (¬ (r15 ≠ 0) →
    wp_X12_brings_b208 Q (wp_X12_brings_l125 Q n) x1 x2 x3 x4 x6 1 σ16)))))) ∧
    (¬ (r11 ≠ 0) →
    wp_X12_brings_b266 Q (wp_X12_brings_l125 Q n) x1 x2 x3 x4 x5 x6 σ12)))))
def wp_X12_brings (x1 : Int) (x2 : Int) (x3 : Int) (σ : St) (Q : Int → St → Prop) : Prop :=
 (0 ≤ x1 ∧ x1 < 80) ∧
 wp_X12_rowOf (σ 1 (x1.toNat)) σ (fun r1 σ2 =>
 ∀ v3 : Int, v3 = w32 (13 * r1) →
 (0 ≤ x1 ∧ x1 < 80) ∧
 ((σ2 3 (x1.toNat) ≠ (-1)) →
 ∀ v4 : Int, v4 = w32 (x2 + 1) →
 wp_X12_brings_l125 Q bigN x1 x2 x3 v3 1 v4 σ2) ∧
 (¬ (σ2 3 (x1.toNat) ≠ (-1)) →
 (0 ≤ x1 ∧ x1 < 80) ∧
 wp_X12_fits (σ2 2 (x1.toNat)) x2 x3 σ2 (fun r5 σ6 =>
 ((r5 ≠ 0) →
 (0 ≤ x1 ∧ x1 < 80) ∧
 ((σ6 2 (x1.toNat) < 100) →
 (0 ≤ x1 ∧ x1 < 80) ∧
 wp_X12_rowOf (σ6 2 (x1.toNat)) σ6 (fun r7 σ8 =>
 wp_X12_brings_b68 Q x1 v3 r7 σ8)) ∧
 (¬ (σ6 2 (x1.toNat) < 100) →
 wp_X12_brings_b68 Q x1 v3 12 σ6)) ∧
 (¬ (r5 ≠ 0) →
 Q 1 σ6))))
def wp_X12_power_l5 (Q : Int → St → Prop) : Nat → Int → Int → Int → Int → St → Prop
  | 0, _, _, _, _, _ => False
  | n + 1, x0, x2, x3, x5, σ =>
    ((x5 ≥ x2) →
    Q x3 σ) ∧
    (¬ (x5 ≥ x2) →
    ∀ v1 : Int, v1 = l_rem (w64 (x3 * x0)) 9973 →
    ∀ v2 : Int, v2 = w32 (x5 + 1) →
    (wp_X12_power_l5 Q n) x0 x2 v1 v2 σ)
def wp_X12_power (x0 : Int) (x2 : Int) (σ : St) (Q : Int → St → Prop) : Prop :=
 wp_X12_power_l5 Q bigN x0 x2 1 0 σ
def wp_X12_clears_b276 (Q : Int → St → Prop) (K171 : Int → Int → St → Prop) (x1 : Int) (x5 : Int) (σ : St) : Prop :=
 ∀ v11 : Int, v11 = w32 (x5 + 1) →
 K171 x1 v11 σ
def wp_X12_clears_l213 (Q : Int → St → Prop) (K171 : Int → Int → St → Prop) : Nat → Int → Int → Int → Int → St → Prop
  | 0, _, _, _, _, _ => False
  | n + 1, x1, x5, x6, x8, σ =>
    ((x8 > 12) →
    wp_X12_clears_b276 Q K171 x1 x5 σ) ∧
    (¬ (x8 > 12) →
    (0 ≤ w32 ((w32 (13 * x5)) + x8) ∧ w32 ((w32 (13 * x5)) + x8) < 156) ∧
    (0 ≤ w32 ((w32 (13 * x1)) + x8) ∧ w32 ((w32 (13 * x1)) + x8) < 156) ∧
    (0 ≤ w32 ((w32 (13 * x5)) + x8) ∧ w32 ((w32 (13 * x5)) + x8) < 156) ∧ ∀ σ12 : St, σ12 = upS σ 24 (w32 ((w32 (13 * x5)) + x8)).toNat (l_rem (w64 ((σ 24 ((w32 ((w32 (13 * x5)) + x8)).toNat)) + (w64 ((w64 (9973 - x6)) * (σ 24 ((w32 ((w32 (13 * x1)) + x8)).toNat)))))) 9973) →
    ∀ v13 : Int, v13 = w32 (x8 + 1) →
    (wp_X12_clears_l213 Q K171 n) x1 x5 x6 v13 σ12)
def wp_X12_clears_l171 (Q : Int → St → Prop) : Nat → Int → Int → St → Prop
  | 0, _, _, _ => False
  | n + 1, x1, x5, σ =>
    ((x5 ≥ σ 0 41) →
    Q 1 σ) ∧
    (¬ (x5 ≥ σ 0 41) →
    (0 ≤ w32 ((w32 (13 * x5)) + x1) ∧ w32 ((w32 (13 * x5)) + x1) < 156) ∧
    ∀ v10 : Int, v10 = σ 24 ((w32 ((w32 (13 * x5)) + x1)).toNat) →
    ((x5 = x1) →
    wp_X12_clears_b276 Q (wp_X12_clears_l171 Q n) x1 x5 σ) ∧
    (¬ (x5 = x1) →
    ((v10 ≠ 0) →
    wp_X12_clears_l213 Q (wp_X12_clears_l171 Q n) bigN x1 x5 v10 0 σ) ∧
    (¬ (v10 ≠ 0) →
    wp_X12_clears_b276 Q (wp_X12_clears_l171 Q n) x1 x5 σ)))
def wp_X12_clears_l125 (Q : Int → St → Prop) : Nat → Int → Int → Int → St → Prop
  | 0, _, _, _, _ => False
  | n + 1, x1, x3, x5, σ =>
    ((x5 > 12) →
    wp_X12_clears_l171 Q bigN x1 0 σ) ∧
    (¬ (x5 > 12) →
    (0 ≤ w32 ((w32 (13 * x1)) + x5) ∧ w32 ((w32 (13 * x1)) + x5) < 156) ∧
    (0 ≤ w32 ((w32 (13 * x1)) + x5) ∧ w32 ((w32 (13 * x1)) + x5) < 156) ∧ ∀ σ8 : St, σ8 = upS σ 24 (w32 ((w32 (13 * x1)) + x5)).toNat (l_rem (w64 ((σ 24 ((w32 ((w32 (13 * x1)) + x5)).toNat)) * x3)) 9973) →
    ∀ v9 : Int, v9 = w32 (x5 + 1) →
    (wp_X12_clears_l125 Q n) x1 x3 v9 σ8)
def wp_X12_clears_l44 (Q : Int → St → Prop) : Nat → Int → Int → Int → St → Prop
  | 0, _, _, _, _ => False
  | n + 1, x1, x2, x3, σ =>
    ((x3 > 12) →
    (0 ≤ w32 ((w32 (13 * x1)) + x1) ∧ w32 ((w32 (13 * x1)) + x1) < 156) ∧
    wp_X12_power (σ 24 ((w32 ((w32 (13 * x1)) + x1)).toNat)) 9971 σ (fun r2 σ3 =>
    wp_X12_clears_l125 Q bigN x1 r2 0 σ3)) ∧
    (¬ (x3 > 12) →
    (0 ≤ w32 ((w32 (13 * x2)) + x3) ∧ w32 ((w32 (13 * x2)) + x3) < 156) ∧
    ∀ v4 : Int, v4 = σ 24 ((w32 ((w32 (13 * x2)) + x3)).toNat) →
    (0 ≤ w32 ((w32 (13 * x1)) + x3) ∧ w32 ((w32 (13 * x1)) + x3) < 156) ∧
    (0 ≤ w32 ((w32 (13 * x2)) + x3) ∧ w32 ((w32 (13 * x2)) + x3) < 156) ∧ ∀ σ5 : St, σ5 = upS σ 24 (w32 ((w32 (13 * x2)) + x3)).toNat (σ 24 ((w32 ((w32 (13 * x1)) + x3)).toNat)) →
    (0 ≤ w32 ((w32 (13 * x1)) + x3) ∧ w32 ((w32 (13 * x1)) + x3) < 156) ∧ ∀ σ6 : St, σ6 = upS σ5 24 (w32 ((w32 (13 * x1)) + x3)).toNat v4 →
    ∀ v7 : Int, v7 = w32 (x3 + 1) →
    (wp_X12_clears_l44 Q n) x1 x2 v7 σ6)
def wp_X12_clears_b32 (Q : Int → St → Prop) (x1 : Int) (x2 : Int) (σ : St) : Prop :=
 ((x2 ≠ σ 0 41) →
 wp_X12_clears_l44 Q bigN x1 x2 0 σ) ∧
 (¬ (x2 ≠ σ 0 41) →
 Q 0 σ)
def wp_X12_clears_l2 (Q : Int → St → Prop) : Nat → Int → Int → St → Prop
  | 0, _, _, _ => False
  | n + 1, x1, x2, σ =>
    ((x2 ≥ σ 0 41) →
    wp_X12_clears_b32 Q x1 x2 σ) ∧
    (¬ (x2 ≥ σ 0 41) →
    (0 ≤ w32 ((w32 (13 * x2)) + x1) ∧ w32 ((w32 (13 * x2)) + x1) < 156) ∧
    ((σ 24 ((w32 ((w32 (13 * x2)) + x1)).toNat) ≠ 0) →
    wp_X12_clears_b32 Q x1 x2 σ) ∧
    (¬ (σ 24 ((w32 ((w32 (13 * x2)) + x1)).toNat) ≠ 0) →
    ∀ v1 : Int, v1 = w32 (x2 + 1) →
    (wp_X12_clears_l2 Q n) x1 v1 σ))
def wp_X12_clears (x1 : Int) (σ : St) (Q : Int → St → Prop) : Prop :=
 wp_X12_clears_l2 Q bigN x1 x1 σ
def wp_X12_laysSums_b46 (Q : Int → St → Prop) (K7 : Int → Int → Int → St → Prop) (x1 : Int) (x2 : Int) (x3 : Int) (σ : St) : Prop :=
 ∀ v8 : Int, v8 = w32 (x3 + 1) →
 K7 x1 x2 v8 σ
def wp_X12_laysSums_b160 (Q : Int → St → Prop) (K105 : Int → Int → Int → Int → St → Prop) (x1 : Int) (x2 : Int) (x3 : Int) (x4 : Int) (σ : St) : Prop :=
 ∀ v19 : Int, v19 = w32 (x4 + 1) →
 K105 x1 x2 x3 v19 σ
def wp_X12_laysSums_b159 (Q : Int → St → Prop) (K105 : Int → Int → Int → Int → St → Prop) (x1 : Int) (x2 : Int) (x4 : Int) (s0 : Int) (σ : St) : Prop :=
 wp_X12_laysSums_b160 Q K105 x1 x2 s0 x4 σ
def wp_X12_laysSums_b158 (Q : Int → St → Prop) (K105 : Int → Int → Int → Int → St → Prop) (x1 : Int) (x2 : Int) (x4 : Int) (σ : St) : Prop :=
 wp_X12_laysSums_b159 Q K105 x1 x2 x4 0 σ
def wp_X12_laysSums_l247 (Q : Int → St → Prop) : Nat → Int → Int → Int → St → Prop
  | 0, _, _, _, _ => False
  | n + 1, x1, x2, x4, σ =>
    ((x4 ≥ σ 0 41) →
    Q 0 σ) ∧
    (¬ (x4 ≥ σ 0 41) →
    (0 ≤ x4 ∧ x4 < 12) ∧
    wp_X12_item (σ 25 (x4.toNat)) x1 x2 σ (fun r26 σ27 =>
    (0 ≤ w32 ((w32 (13 * x4)) + 12) ∧ w32 ((w32 (13 * x4)) + 12) < 156) ∧
    (0 ≤ r26 ∧ r26 < 768) ∧ ∀ σ28 : St, σ28 = upS σ27 22 r26.toNat (σ27 24 ((w32 ((w32 (13 * x4)) + 12)).toNat)) →
    ∀ v29 : Int, v29 = w32 (x4 + 1) →
    (wp_X12_laysSums_l247 Q n) x1 x2 v29 σ28))
def wp_X12_laysSums_b243 (Q : Int → St → Prop) (x1 : Int) (x2 : Int) (s0 : Int) (s1 : Int) (σ : St) : Prop :=
 (0 ≤ s1 ∧ s1 < 64) ∧ ∀ σ25 : St, σ25 = upS σ 23 s1.toNat (b_and s0 1) →
 wp_X12_laysSums_l247 Q bigN x1 x2 0 σ25
def wp_X12_laysSums_b225 (Q : Int → St → Prop) (x1 : Int) (x2 : Int) (x3 : Int) (σ : St) : Prop :=
 wp_X12_span x1 x2 σ (fun r23 σ24 =>
 ((x3 ≠ 0) →
 wp_X12_laysSums_b243 Q x1 x2 0 r23 σ24) ∧
 (¬ (x3 ≠ 0) →
 wp_X12_laysSums_b243 Q x1 x2 1 r23 σ24))
def wp_X12_laysSums_l199 (Q : Int → St → Prop) : Nat → Int → Int → Int → Int → St → Prop
  | 0, _, _, _, _, _ => False
  | n + 1, x1, x2, x3, x4, σ =>
    ((x4 ≥ σ 0 41) →
    wp_X12_laysSums_b225 Q x1 x2 x3 σ) ∧
    (¬ (x4 ≥ σ 0 41) →
    ((x3 = 0) →
    wp_X12_laysSums_b225 Q x1 x2 x3 σ) ∧
    (¬ (x3 = 0) →
    wp_X12_clears x4 σ (fun r20 σ21 =>
    ∀ v22 : Int, v22 = w32 (x4 + 1) →
    (wp_X12_laysSums_l199 Q n) x1 x2 r20 v22 σ21)))
def wp_X12_laysSums_l169 (Q : Int → St → Prop) : Nat → Int → Int → Int → Int → St → Prop
  | 0, _, _, _, _, _ => False
  | n + 1, x1, x2, x3, x4, σ =>
    ((x4 ≥ 156) →
    wp_X12_laysSums_l199 Q bigN x1 x2 x3 0 σ) ∧
    (¬ (x4 ≥ 156) →
    (0 ≤ x4 ∧ x4 < 156) ∧
    (0 ≤ x4 ∧ x4 < 156) ∧ ∀ σ17 : St, σ17 = upS σ 24 x4.toNat (l_rem (σ 24 (x4.toNat)) 9973) →
    ∀ v18 : Int, v18 = w32 (x4 + 1) →
    (wp_X12_laysSums_l169 Q n) x1 x2 x3 v18 σ17)
def wp_X12_laysSums_l105 (Q : Int → St → Prop) : Nat → Int → Int → Int → Int → St → Prop
  | 0, _, _, _, _, _ => False
  | n + 1, x1, x2, x3, x4, σ =>
    ((x4 ≥ σ 0 1) →
    wp_X12_laysSums_l169 Q bigN x1 x2 x3 0 σ) ∧
    (¬ (x4 ≥ σ 0 1) →
    wp_X12_isIn x4 σ (fun r11 σ12 =>
    ((r11 = 0) →
    wp_X12_laysSums_b160 Q (wp_X12_laysSums_l105 Q n) x1 x2 x3 x4 σ12) ∧
    (¬ (r11 = 0) →
    (0 ≤ x4 ∧ x4 < 80) ∧
    wp_X12_has (σ12 1 (x4.toNat)) x1 x2 σ12 (fun r13 σ14 =>
    ((r13 = 0) →
    wp_X12_laysSums_b160 Q (wp_X12_laysSums_l105 Q n) x1 x2 x3 x4 σ14) ∧
    (¬ (r13 = 0) →
    wp_X12_brings x4 x1 x2 σ14 (fun r15 σ16 =>
    ((r15 = 0) →
    wp_X12_laysSums_b158 Q (wp_X12_laysSums_l105 Q n) x1 x2 x4 σ16) ∧
    (¬ (r15 = 0) →
    ((x3 = 0) →
    wp_X12_laysSums_b158 Q (wp_X12_laysSums_l105 Q n) x1 x2 x4 σ16) ∧
    (¬ (x3 = 0) →
    wp_X12_laysSums_b159 Q (wp_X12_laysSums_l105 Q n) x1 x2 x4 1 σ16))))))))
def wp_X12_laysSums_l76 (Q : Int → St → Prop) : Nat → Int → Int → Int → St → Prop
  | 0, _, _, _, _ => False
  | n + 1, x1, x2, x3, σ =>
    ((x3 ≥ σ 0 41) →
    wp_X12_laysSums_l105 Q bigN x1 x2 1 0 σ) ∧
    (¬ (x3 ≥ σ 0 41) →
    (0 ≤ w32 (14 * x3) ∧ w32 (14 * x3) < 156) ∧ ∀ σ9 : St, σ9 = upS σ 24 (w32 (14 * x3)).toNat 1 →
    ∀ v10 : Int, v10 = w32 (x3 + 1) →
    (wp_X12_laysSums_l76 Q n) x1 x2 v10 σ9)
def wp_X12_laysSums_l54 (Q : Int → St → Prop) : Nat → Int → Int → Int → St → Prop
  | 0, _, _, _, _ => False
  | n + 1, x1, x2, x3, σ =>
    ((x3 ≥ 156) →
    wp_X12_laysSums_l76 Q bigN x1 x2 0 σ) ∧
    (¬ (x3 ≥ 156) →
    (0 ≤ x3 ∧ x3 < 156) ∧ ∀ σ6 : St, σ6 = upS σ 24 x3.toNat 0 →
    ∀ v7 : Int, v7 = w32 (x3 + 1) →
    (wp_X12_laysSums_l54 Q n) x1 x2 v7 σ6)
def wp_X12_laysSums_l7 (Q : Int → St → Prop) : Nat → Int → Int → Int → St → Prop
  | 0, _, _, _, _ => False
  | n + 1, x1, x2, x3, σ =>
    ((x3 ≥ 12) →
    wp_X12_laysSums_l54 Q bigN x1 x2 0 σ) ∧
    (¬ (x3 ≥ 12) →
    wp_X12_has x3 x1 x2 σ (fun r2 σ3 =>
    ((r2 ≠ 0) →
    (0 ≤ σ3 0 41 ∧ σ3 0 41 < 12) ∧ ∀ σ4 : St, σ4 = upS σ3 25 (σ3 0 41).toNat x3 →
    ∀ σ5 : St, σ5 = upS σ4 0 41 (w32 ((σ4 0 41) + 1)) →
    wp_X12_laysSums_b46 Q (wp_X12_laysSums_l7 Q n) x1 x2 x3 σ5) ∧
    (¬ (r2 ≠ 0) →
    wp_X12_laysSums_b46 Q (wp_X12_laysSums_l7 Q n) x1 x2 x3 σ3)))
def wp_X12_laysSums (x1 : Int) (x2 : Int) (σ : St) (Q : Int → St → Prop) : Prop :=
 ∀ σ1 : St, σ1 = upS σ 0 41 0 →
 wp_X12_laysSums_l7 Q bigN x1 x2 0 σ1
def wp_X12_sum_l44 (Q : Int → St → Prop) (K32 : Int → Int → Int → Int → St → Prop) : Nat → Int → Int → Int → Int → Int → St → Prop
  | 0, _, _, _, _, _, _ => False
  | n + 1, x1, x2, x3, x4, x5, σ =>
    ((w32 (x5 + x4) > σ 0 27) →
    ∀ v11 : Int, v11 = w32 (x4 + 1) →
    K32 x1 x2 x3 v11 σ) ∧
    (¬ (w32 (x5 + x4) > σ 0 27) →
    wp_X12_laysSums x5 (w32 (x5 + x4)) σ (fun r12 σ13 =>
    ∀ v14 : Int, v14 = w32 (x5 + 1) →
    (wp_X12_sum_l44 Q K32 n) x1 x2 x3 x4 v14 σ13))
def wp_X12_sum_l32 (Q : Int → St → Prop) : Nat → Int → Int → Int → Int → St → Prop
  | 0, _, _, _, _, _ => False
  | n + 1, x1, x2, x3, x4, σ =>
    ((x4 > σ 0 27) →
    wp_X12_span x2 x3 σ (fun r7 σ8 =>
    (0 ≤ r7 ∧ r7 < 64) ∧
    ((σ8 23 (r7.toNat) = 0) →
    wp_X12_item x1 x2 x3 σ8 (fun r9 σ10 =>
    (0 ≤ r9 ∧ r9 < 768) ∧
    Q (l_int (σ10 22 (r9.toNat))) σ10)) ∧
    (¬ (σ8 23 (r7.toNat) = 0) →
    Q ((-1)) σ8))) ∧
    (¬ (x4 > σ 0 27) →
    wp_X12_sum_l44 Q (wp_X12_sum_l32 Q n) bigN x1 x2 x3 x4 0 σ)
def wp_X12_sum (x1 : Int) (x2 : Int) (x3 : Int) (σ : St) (Q : Int → St → Prop) : Prop :=
 wp_X12_isItem x1 x2 x3 σ (fun r1 σ2 =>
 ((r1 ≠ 0) →
 wp_X12_looks σ2 (fun r3 σ4 =>
 wp_X12_has x1 x2 x3 σ4 (fun r5 σ6 =>
 ((r5 ≠ 0) →
 wp_X12_sum_l32 Q bigN x1 x2 x3 1 σ6) ∧
 (¬ (r5 ≠ 0) →
 Q 0 σ6)))) ∧
 (¬ (r1 ≠ 0) →
 Q ((-2)) σ2))
def wp_X12_isLetterAt_b26 (Q : Int → St → Prop) (σ : St) : Prop :=
 Q 1 σ
def wp_X12_isLetterAt_b30 (Q : Int → St → Prop) (σ : St) : Prop :=
 Q 0 σ
def wp_X12_isLetterAt (x1 : Int) (x2 : Int) (x3 : Int) (σ : St) (Q : Int → St → Prop) : Prop :=
 ((x1 < 100) →
 wp_X12_isLetterAt_b26 Q σ) ∧
 (¬ (x1 < 100) →
 ((x3 ≠ w32 (x2 + 1)) →
 wp_X12_isLetterAt_b30 Q σ) ∧
 (¬ (x3 ≠ w32 (x2 + 1)) →
 (0 ≤ x2 ∧ x2 < 8) ∧
 ((σ 14 (x2.toNat) ≠ w32 (x1 - 100)) →
 wp_X12_isLetterAt_b30 Q σ) ∧
 (¬ (σ 14 (x2.toNat) ≠ w32 (x1 - 100)) →
 wp_X12_isLetterAt_b26 Q σ)))
def wp_X12_valuePart (x1 : Int) (x2 : Int) (x3 : Int) (σ : St) (Q : Int → St → Prop) : Prop :=
 ((x1 < 100) →
 wp_X12_item x1 x2 x3 σ (fun r1 σ2 =>
 (0 ≤ r1 ∧ r1 < 768) ∧
 Q (σ2 26 (r1.toNat)) σ2)) ∧
 (¬ (x1 < 100) →
 Q (σ 8 (Int.toNat 0)) σ)
def wp_X12_valueAnew_b209 (Q : Int → St → Prop) (K11 : Int → Int → Int → Int → Int → St → Prop) (K107 : Int → Int → Int → Int → Int → Int → St → Prop) (x1 : Int) (x2 : Int) (x3 : Int) (x4 : Int) (x5 : Int) (x6 : Int) (σ : St) : Prop :=
 ∀ v28 : Int, v28 = w32 (x6 + 1) →
 K107 x1 x2 x3 x4 x5 v28 σ
def wp_X12_valueAnew_b215 (Q : Int → St → Prop) (K11 : Int → Int → Int → Int → Int → St → Prop) (x1 : Int) (x2 : Int) (x3 : Int) (x4 : Int) (x5 : Int) (σ : St) : Prop :=
 ∀ v12 : Int, v12 = w32 (x5 + 1) →
 K11 x1 x2 x3 x4 v12 σ
def wp_X12_valueAnew_l107 (Q : Int → St → Prop) (K11 : Int → Int → Int → Int → Int → St → Prop) : Nat → Int → Int → Int → Int → Int → Int → St → Prop
  | 0, _, _, _, _, _, _, _ => False
  | n + 1, x1, x2, x3, x4, x5, x6, σ =>
    ((x6 ≥ x3) →
    wp_X12_valueAnew_b215 Q K11 x1 x2 x3 x4 x5 σ) ∧
    (¬ (x6 ≥ x3) →
    (0 ≤ x5 ∧ x5 < 80) ∧
    ((σ 3 (x5.toNat) = (-1)) →
    wp_X12_valueAnew_b215 Q K11 x1 x2 x3 x4 x5 σ) ∧
    (¬ (σ 3 (x5.toNat) = (-1)) →
    (0 ≤ x5 ∧ x5 < 80) ∧
    wp_X12_isLetterAt (σ 2 (x5.toNat)) x2 x6 σ (fun r14 σ15 =>
    ((r14 = 0) →
    wp_X12_valueAnew_b209 Q K11 (wp_X12_valueAnew_l107 Q K11 n) x1 x2 x3 x4 x5 x6 σ15) ∧
    (¬ (r14 = 0) →
    (0 ≤ x5 ∧ x5 < 80) ∧
    wp_X12_isLetterAt (σ15 3 (x5.toNat)) x6 x3 σ15 (fun r16 σ17 =>
    ((r16 = 0) →
    wp_X12_valueAnew_b209 Q K11 (wp_X12_valueAnew_l107 Q K11 n) x1 x2 x3 x4 x5 x6 σ17) ∧
    (¬ (r16 = 0) →
    (0 ≤ x5 ∧ x5 < 80) ∧
    (0 ≤ x5 ∧ x5 < 80) ∧
    wp_X12_valuePart (σ17 2 (x5.toNat)) x2 x6 σ17 (fun r18 σ19 =>
    wp_X12_product2 (σ17 5 (x5.toNat)) r18 σ19 (fun r20 σ21 =>
    (0 ≤ x5 ∧ x5 < 80) ∧
    wp_X12_valuePart (σ21 3 (x5.toNat)) x6 x3 σ21 (fun r22 σ23 =>
    wp_X12_product2 r20 r22 σ23 (fun r24 σ25 =>
    wp_X12_sum2 x4 r24 σ25 (fun r26 σ27 =>
    wp_X12_valueAnew_b209 Q K11 (wp_X12_valueAnew_l107 Q K11 n) x1 x2 x3 r26 x5 x6 σ27)))))))))))
def wp_X12_valueAnew_b102 (Q : Int → St → Prop) (K11 : Int → Int → Int → Int → Int → St → Prop) (x1 : Int) (x2 : Int) (x3 : Int) (x4 : Int) (x5 : Int) (σ : St) : Prop :=
 ∀ v13 : Int, v13 = w32 (x2 + 1) →
 wp_X12_valueAnew_l107 Q K11 bigN x1 x2 x3 x4 x5 v13 σ
def wp_X12_valueAnew_l11 (Q : Int → St → Prop) : Nat → Int → Int → Int → Int → Int → St → Prop
  | 0, _, _, _, _, _, _ => False
  | n + 1, x1, x2, x3, x4, x5, σ =>
    ((x5 ≥ σ 0 1) →
    Q x4 σ) ∧
    (¬ (x5 ≥ σ 0 1) →
    wp_X12_isIn x5 σ (fun r2 σ3 =>
    ((r2 = 0) →
    wp_X12_valueAnew_b215 Q (wp_X12_valueAnew_l11 Q n) x1 x2 x3 x4 x5 σ3) ∧
    (¬ (r2 = 0) →
    (0 ≤ x5 ∧ x5 < 80) ∧
    ((σ3 1 (x5.toNat) = x1) →
    (0 ≤ x5 ∧ x5 < 80) ∧
    ((σ3 3 (x5.toNat) ≠ (-1)) →
    wp_X12_valueAnew_b102 Q (wp_X12_valueAnew_l11 Q n) x1 x2 x3 x4 x5 σ3) ∧
    (¬ (σ3 3 (x5.toNat) ≠ (-1)) →
    (0 ≤ x5 ∧ x5 < 80) ∧
    wp_X12_isLetterAt (σ3 2 (x5.toNat)) x2 x3 σ3 (fun r4 σ5 =>
    ((r4 = 0) →
    wp_X12_valueAnew_b102 Q (wp_X12_valueAnew_l11 Q n) x1 x2 x3 x4 x5 σ5) ∧
    (¬ (r4 = 0) →
    (0 ≤ x5 ∧ x5 < 80) ∧
    (0 ≤ x5 ∧ x5 < 80) ∧
    wp_X12_valuePart (σ5 2 (x5.toNat)) x2 x3 σ5 (fun r6 σ7 =>
    wp_X12_product2 (σ5 5 (x5.toNat)) r6 σ7 (fun r8 σ9 =>
    wp_X12_sum2 x4 r8 σ9 (fun r10 σ11 =>
    wp_X12_valueAnew_b102 Q (wp_X12_valueAnew_l11 Q n) x1 x2 x3 r10 x5 σ11))))))) ∧
    (¬ (σ3 1 (x5.toNat) = x1) →
    wp_X12_valueAnew_b215 Q (wp_X12_valueAnew_l11 Q n) x1 x2 x3 x4 x5 σ3))))
def wp_X12_valueAnew (x1 : Int) (x2 : Int) (x3 : Int) (σ : St) (Q : Int → St → Prop) : Prop :=
 ∀ v1 : Int, v1 = σ 7 (Int.toNat 0) →
 wp_X12_valueAnew_l11 Q bigN x1 x2 x3 v1 0 σ
def wp_X12_turnsOnce_l27 (Q : Int → St → Prop) (K4 : Int → Int → St → Prop) (K16 : Int → Int → Int → St → Prop) : Nat → Int → Int → Int → Int → St → Prop
  | 0, _, _, _, _, _ => False
  | n + 1, x1, x2, x3, x4, σ =>
    ((x4 ≥ 12) →
    ∀ v5 : Int, v5 = w32 (x3 + 1) →
    K16 x1 x2 v5 σ) ∧
    (¬ (x4 ≥ 12) →
    wp_X12_item x4 x2 x3 σ (fun r6 σ7 =>
    wp_X12_valueAnew x4 x2 x3 σ7 (fun r8 σ9 =>
    (0 ≤ r6 ∧ r6 < 768) ∧ ∀ σ10 : St, σ10 = upS σ9 27 r6.toNat r8 →
    ∀ v11 : Int, v11 = w32 (x4 + 1) →
    (wp_X12_turnsOnce_l27 Q K4 K16 n) x1 x2 x3 v11 σ10)))
def wp_X12_turnsOnce_l16 (Q : Int → St → Prop) (K4 : Int → Int → St → Prop) : Nat → Int → Int → Int → St → Prop
  | 0, _, _, _, _ => False
  | n + 1, x1, x2, x3, σ =>
    ((x3 > σ 0 27) →
    ∀ v3 : Int, v3 = w32 (x2 + 1) →
    K4 x1 v3 σ) ∧
    (¬ (x3 > σ 0 27) →
    wp_X12_turnsOnce_l27 Q K4 (wp_X12_turnsOnce_l16 Q K4 n) bigN x1 x2 x3 0 σ)
def wp_X12_turnsOnce_b139 (Q : Int → St → Prop) (K74 : Int → Int → St → Prop) (K86 : Int → Int → Int → St → Prop) (K97 : Int → Int → Int → Int → St → Prop) (x2 : Int) (x3 : Int) (x4 : Int) (x5 : Int) (s0 : Int) (σ : St) : Prop :=
 (0 ≤ x5 ∧ x5 < 768) ∧
 (0 ≤ x5 ∧ x5 < 768) ∧ ∀ σ15 : St, σ15 = upS σ 26 x5.toNat (σ 27 (x5.toNat)) →
 ∀ v16 : Int, v16 = w32 (x4 + 1) →
 K97 s0 x2 x3 v16 σ15
def wp_X12_turnsOnce_b134 (Q : Int → St → Prop) (K74 : Int → Int → St → Prop) (K86 : Int → Int → Int → St → Prop) (K97 : Int → Int → Int → Int → St → Prop) (x2 : Int) (x3 : Int) (x4 : Int) (x5 : Int) (σ : St) : Prop :=
 wp_X12_turnsOnce_b139 Q K74 K86 K97 x2 x3 x4 x5 1 σ
def wp_X12_turnsOnce_l97 (Q : Int → St → Prop) (K74 : Int → Int → St → Prop) (K86 : Int → Int → Int → St → Prop) : Nat → Int → Int → Int → Int → St → Prop
  | 0, _, _, _, _, _ => False
  | n + 1, x1, x2, x3, x4, σ =>
    ((x4 ≥ 12) →
    ∀ v12 : Int, v12 = w32 (x3 + 1) →
    K86 x1 x2 v12 σ) ∧
    (¬ (x4 ≥ 12) →
    wp_X12_item x4 x2 x3 σ (fun r13 σ14 =>
    ((x1 ≠ 0) →
    wp_X12_turnsOnce_b134 Q K74 K86 (wp_X12_turnsOnce_l97 Q K74 K86 n) x2 x3 x4 r13 σ14) ∧
    (¬ (x1 ≠ 0) →
    (0 ≤ r13 ∧ r13 < 768) ∧
    (0 ≤ r13 ∧ r13 < 768) ∧
    ((σ14 27 (r13.toNat) = σ14 26 (r13.toNat)) →
    wp_X12_turnsOnce_b139 Q K74 K86 (wp_X12_turnsOnce_l97 Q K74 K86 n) x2 x3 x4 r13 0 σ14) ∧
    (¬ (σ14 27 (r13.toNat) = σ14 26 (r13.toNat)) →
    wp_X12_turnsOnce_b134 Q K74 K86 (wp_X12_turnsOnce_l97 Q K74 K86 n) x2 x3 x4 r13 σ14))))
def wp_X12_turnsOnce_l86 (Q : Int → St → Prop) (K74 : Int → Int → St → Prop) : Nat → Int → Int → Int → St → Prop
  | 0, _, _, _, _ => False
  | n + 1, x1, x2, x3, σ =>
    ((x3 > σ 0 27) →
    ∀ v4 : Int, v4 = w32 (x2 + 1) →
    K74 x1 v4 σ) ∧
    (¬ (x3 > σ 0 27) →
    wp_X12_turnsOnce_l97 Q K74 (wp_X12_turnsOnce_l86 Q K74 n) bigN x1 x2 x3 0 σ)
def wp_X12_turnsOnce_l74 (Q : Int → St → Prop) : Nat → Int → Int → St → Prop
  | 0, _, _, _ => False
  | n + 1, x1, x2, σ =>
    ((x2 ≥ σ 0 27) →
    (x1 = 0 ∨ x1 = 1) ∧ Q x1 σ) ∧
    (¬ (x2 ≥ σ 0 27) →
    ∀ v2 : Int, v2 = w32 (x2 + 1) →
    wp_X12_turnsOnce_l86 Q (wp_X12_turnsOnce_l74 Q n) bigN x1 x2 v2 σ)
def wp_X12_turnsOnce_l4 (Q : Int → St → Prop) : Nat → Int → Int → St → Prop
  | 0, _, _, _ => False
  | n + 1, x1, x2, σ =>
    ((x2 ≥ σ 0 27) →
    wp_X12_turnsOnce_l74 Q bigN x1 0 σ) ∧
    (¬ (x2 ≥ σ 0 27) →
    ∀ v1 : Int, v1 = w32 (x2 + 1) →
    wp_X12_turnsOnce_l16 Q (wp_X12_turnsOnce_l4 Q n) bigN x1 x2 v1 σ)
def wp_X12_turnsOnce (σ : St) (Q : Int → St → Prop) : Prop :=
 wp_X12_turnsOnce_l4 Q bigN 0 0 σ
def wp_X12_settles_l36 (Q : Int → St → Prop) : Nat → St → Prop
  | 0, _ => False
  | n + 1, σ =>
    ((σ 0 44 > 100) →
    Q 0 σ) ∧
    (¬ (σ 0 44 > 100) →
    wp_X12_turnsOnce σ (fun r6 σ7 =>
    ((r6 ≠ 0) →
    ∀ σ8 : St, σ8 = upS σ7 0 44 (w32 ((σ7 0 44) + 1)) →
    (wp_X12_settles_l36 Q n) σ8) ∧
    (¬ (r6 ≠ 0) →
    Q 1 σ7)))
def wp_X12_settles_l6 (Q : Int → St → Prop) : Nat → Int → St → Prop
  | 0, _, _ => False
  | n + 1, x1, σ =>
    ((x1 ≥ 768) →
    ∀ σ3 : St, σ3 = upS σ 0 44 1 →
    wp_X12_settles_l36 Q bigN σ3) ∧
    (¬ (x1 ≥ 768) →
    (0 ≤ x1 ∧ x1 < 768) ∧ ∀ σ4 : St, σ4 = upS σ 26 x1.toNat (σ 7 (Int.toNat 0)) →
    ∀ v5 : Int, v5 = w32 (x1 + 1) →
    (wp_X12_settles_l6 Q n) v5 σ4)
def wp_X12_settles (σ : St) (Q : Int → St → Prop) : Prop :=
 wp_X12_looks σ (fun r1 σ2 =>
 wp_X12_settles_l6 Q bigN 0 σ2)
def wp_X12_value (x1 : Int) (x2 : Int) (x3 : Int) (σ : St) (Q : Int → St → Prop) : Prop :=
 wp_X12_isItem x1 x2 x3 σ (fun r1 σ2 =>
 ((r1 ≠ 0) →
 wp_X12_settles σ2 (fun r3 σ4 =>
 ((r3 = 0) →
 Q ((-6)) σ4) ∧
 (¬ (r3 = 0) →
 wp_X12_item x1 x2 x3 σ4 (fun r5 σ6 =>
 (0 ≤ r5 ∧ r5 < 768) ∧
 Q (σ6 26 (r5.toNat)) σ6)))) ∧
 (¬ (r1 ≠ 0) →
 Q ((-2)) σ2))
def wp_X12_rounds (σ : St) (Q : Int → St → Prop) : Prop :=
 wp_X12_settles σ (fun r1 σ2 =>
 ((r1 = 0) →
 Q ((-6)) σ2) ∧
 (¬ (r1 = 0) →
 Q (σ2 0 44) σ2))
def wp_X12_keeps_b116 (Q : Int → St → Prop) (σ : St) : Prop :=
 Q 0 σ
def wp_X12_keeps_b162 (Q : Int → St → Prop) (σ : St) : Prop :=
 Q 0 σ
def wp_X12_keeps_b164 (Q : Int → St → Prop) (x2 : Int) (σ : St) : Prop :=
 wp_X12_sum2 x2 x2 σ (fun r15 σ16 =>
 ((r15 ≠ x2) →
 Q 0 σ16) ∧
 (¬ (r15 ≠ x2) →
 Q 1 σ16))
def wp_X12_keeps (x1 : Int) (x2 : Int) (x3 : Int) (σ : St) (Q : Int → St → Prop) : Prop :=
 (x1 = 0 →
 wp_X12_sum2 x2 x3 σ (fun r1 σ2 =>
 wp_X12_sum2 x3 x2 σ2 (fun r3 σ4 =>
 ((r1 ≠ r3) →
 Q 0 σ4) ∧
 (¬ (r1 ≠ r3) →
 Q 1 σ4)))) ∧
 (x1 = 1 →
 wp_X12_keeps_b164 Q x2 σ) ∧
 (x1 = 2 →
 wp_X12_sum2 x2 (σ 7 (Int.toNat 0)) σ (fun r5 σ6 =>
 ((r5 ≠ x2) →
 Q 0 σ6) ∧
 (¬ (r5 ≠ x2) →
 Q 1 σ6))) ∧
 (x1 = 3 →
 wp_X12_keeps_b164 Q x2 σ) ∧
 (x1 = 4 →
 wp_X12_product2 (σ 8 (Int.toNat 0)) x2 σ (fun r7 σ8 =>
 ((r7 ≠ x2) →
 wp_X12_keeps_b116 Q σ8) ∧
 (¬ (r7 ≠ x2) →
 wp_X12_product2 x2 (σ8 8 (Int.toNat 0)) σ8 (fun r9 σ10 =>
 ((r9 ≠ x2) →
 wp_X12_keeps_b116 Q σ10) ∧
 (¬ (r9 ≠ x2) →
 Q 1 σ10))))) ∧
 (x1 = 5 →
 wp_X12_product2 (σ 7 (Int.toNat 0)) x2 σ (fun r11 σ12 =>
 ((r11 ≠ σ12 7 (Int.toNat 0)) →
 wp_X12_keeps_b162 Q σ12) ∧
 (¬ (r11 ≠ σ12 7 (Int.toNat 0)) →
 wp_X12_product2 x2 (σ12 7 (Int.toNat 0)) σ12 (fun r13 σ14 =>
 ((r13 ≠ σ14 7 (Int.toNat 0)) →
 wp_X12_keeps_b162 Q σ14) ∧
 (¬ (r13 ≠ σ14 7 (Int.toNat 0)) →
 Q 1 σ14))))) ∧
 (¬ x1 = 0 ∧ ¬ x1 = 1 ∧ ¬ x1 = 2 ∧ ¬ x1 = 3 ∧ ¬ x1 = 4 ∧ ¬ x1 = 5 →
 wp_X12_keeps_b164 Q x2 σ)
def wp_X12_keepsThree (x1 : Int) (x2 : Int) (x3 : Int) (x4 : Int) (σ : St) (Q : Int → St → Prop) : Prop :=
 (x1 = 1 →
 wp_X12_sum2 x2 x3 σ (fun r1 σ2 =>
 wp_X12_sum2 r1 x4 σ2 (fun r3 σ4 =>
 wp_X12_sum2 x3 x4 σ4 (fun r5 σ6 =>
 wp_X12_sum2 x2 r5 σ6 (fun r7 σ8 =>
 ((r3 ≠ r7) →
 Q 0 σ8) ∧
 (¬ (r3 ≠ r7) →
 Q 1 σ8)))))) ∧
 (x1 = 3 →
 wp_X12_product2 x2 x3 σ (fun r9 σ10 =>
 wp_X12_product2 r9 x4 σ10 (fun r11 σ12 =>
 wp_X12_product2 x3 x4 σ12 (fun r13 σ14 =>
 wp_X12_product2 x2 r13 σ14 (fun r15 σ16 =>
 ((r11 ≠ r15) →
 Q 0 σ16) ∧
 (¬ (r11 ≠ r15) →
 Q 1 σ16)))))) ∧
 (x1 = 6 →
 wp_X12_sum2 x3 x4 σ (fun r17 σ18 =>
 wp_X12_product2 x2 r17 σ18 (fun r19 σ20 =>
 wp_X12_product2 x2 x3 σ20 (fun r21 σ22 =>
 wp_X12_product2 x2 x4 σ22 (fun r23 σ24 =>
 wp_X12_sum2 r21 r23 σ24 (fun r25 σ26 =>
 ((r19 ≠ r25) →
 Q 0 σ26) ∧
 (¬ (r19 ≠ r25) →
 Q 1 σ26))))))) ∧
 (¬ x1 = 1 ∧ ¬ x1 = 3 ∧ ¬ x1 = 6 →
 wp_X12_sum2 x2 x3 σ (fun r27 σ28 =>
 wp_X12_product2 r27 x4 σ28 (fun r29 σ30 =>
 wp_X12_product2 x2 x4 σ30 (fun r31 σ32 =>
 wp_X12_product2 x3 x4 σ32 (fun r33 σ34 =>
 wp_X12_sum2 r31 r33 σ34 (fun r35 σ36 =>
 ((r29 ≠ r35) →
 Q 0 σ36) ∧
 (¬ (r29 ≠ r35) →
 Q 1 σ36)))))))
def wp_X12_holds_b135 (Q : Int → St → Prop) (K31 : Int → Int → Int → Int → St → Prop) (K45 : Int → Int → Int → Int → Int → St → Prop) (K94 : Int → Int → Int → Int → Int → Int → St → Prop) (x1 : Int) (x2 : Int) (x3 : Int) (x4 : Int) (x5 : Int) (x6 : Int) (σ : St) : Prop :=
 ∀ v7 : Int, v7 = w32 (x6 + 1) →
 K94 x1 x2 x3 x4 x5 v7 σ
def wp_X12_holds_b141 (Q : Int → St → Prop) (K31 : Int → Int → Int → Int → St → Prop) (K45 : Int → Int → Int → Int → Int → St → Prop) (x1 : Int) (x2 : Int) (x3 : Int) (x4 : Int) (x5 : Int) (σ : St) : Prop :=
 ∀ v4 : Int, v4 = w32 (x5 + 1) →
 K45 x1 x2 x3 x4 v4 σ
def wp_X12_holds_l94 (Q : Int → St → Prop) (K31 : Int → Int → Int → Int → St → Prop) (K45 : Int → Int → Int → Int → Int → St → Prop) : Nat → Int → Int → Int → Int → Int → Int → St → Prop
  | 0, _, _, _, _, _, _, _ => False
  | n + 1, x1, x2, x3, x4, x5, x6, σ =>
    ((x6 ≥ σ 6 (Int.toNat 0)) →
    wp_X12_holds_b141 Q K31 K45 x1 x2 x3 x4 x5 σ) ∧
    (¬ (x6 ≥ σ 6 (Int.toNat 0)) →
    ((x3 = 0) →
    wp_X12_holds_b141 Q K31 K45 x1 x2 x3 x4 x5 σ) ∧
    (¬ (x3 = 0) →
    ((b_and (b_shr x2 x6) 1 ≠ 1) →
    wp_X12_holds_b135 Q K31 K45 (wp_X12_holds_l94 Q K31 K45 n) x1 x2 x3 x4 x5 x6 σ) ∧
    (¬ (b_and (b_shr x2 x6) 1 ≠ 1) →
    wp_X12_keepsThree x1 x4 x5 x6 σ (fun r5 σ6 =>
    ((r5 ≠ 0) →
    wp_X12_holds_b135 Q K31 K45 (wp_X12_holds_l94 Q K31 K45 n) x1 x2 x3 x4 x5 x6 σ6) ∧
    (¬ (r5 ≠ 0) →
    Q 0 σ6)))))
def wp_X12_holds_b91 (Q : Int → St → Prop) (K31 : Int → Int → Int → Int → St → Prop) (K45 : Int → Int → Int → Int → Int → St → Prop) (x1 : Int) (x2 : Int) (x3 : Int) (x4 : Int) (x5 : Int) (σ : St) : Prop :=
 wp_X12_holds_l94 Q K31 K45 bigN x1 x2 x3 x4 x5 0 σ
def wp_X12_holds_l45 (Q : Int → St → Prop) (K31 : Int → Int → Int → Int → St → Prop) : Nat → Int → Int → Int → Int → Int → St → Prop
  | 0, _, _, _, _, _, _ => False
  | n + 1, x1, x2, x3, x4, x5, σ =>
    ((x5 ≥ σ 6 (Int.toNat 0)) →
    ∀ v1 : Int, v1 = w32 (x4 + 1) →
    K31 x1 x2 x3 v1 σ) ∧
    (¬ (x5 ≥ σ 6 (Int.toNat 0)) →
    ((b_and (b_and (b_shr x2 x4) (b_shr x2 x5)) 1 ≠ 0) →
    ((x3 ≠ 0) →
    wp_X12_holds_b91 Q K31 (wp_X12_holds_l45 Q K31 n) x1 x2 x3 x4 x5 σ) ∧
    (¬ (x3 ≠ 0) →
    wp_X12_keeps x1 x4 x5 σ (fun r2 σ3 =>
    ((r2 ≠ 0) →
    wp_X12_holds_b91 Q K31 (wp_X12_holds_l45 Q K31 n) x1 x2 x3 x4 x5 σ3) ∧
    (¬ (r2 ≠ 0) →
    Q 0 σ3)))) ∧
    (¬ (b_and (b_and (b_shr x2 x4) (b_shr x2 x5)) 1 ≠ 0) →
    wp_X12_holds_b141 Q K31 (wp_X12_holds_l45 Q K31 n) x1 x2 x3 x4 x5 σ))
def wp_X12_holds_l31 (Q : Int → St → Prop) : Nat → Int → Int → Int → Int → St → Prop
  | 0, _, _, _, _, _ => False
  | n + 1, x1, x2, x3, x4, σ =>
    ((x4 ≥ σ 6 (Int.toNat 0)) →
    Q 1 σ) ∧
    (¬ (x4 ≥ σ 6 (Int.toNat 0)) →
    wp_X12_holds_l45 Q (wp_X12_holds_l31 Q n) bigN x1 x2 x3 x4 0 σ)
def wp_X12_holds_b27 (Q : Int → St → Prop) (x1 : Int) (x2 : Int) (s0 : Int) (σ : St) : Prop :=
 wp_X12_holds_l31 Q bigN x1 x2 s0 0 σ
def wp_X12_holds_b22 (Q : Int → St → Prop) (x1 : Int) (x2 : Int) (σ : St) : Prop :=
 wp_X12_holds_b27 Q x1 x2 1 σ
def wp_X12_holds (x1 : Int) (x2 : Int) (σ : St) (Q : Int → St → Prop) : Prop :=
 ((x1 = 1) →
 wp_X12_holds_b22 Q x1 x2 σ) ∧
 (¬ (x1 = 1) →
 ((x1 = 3) →
 wp_X12_holds_b22 Q x1 x2 σ) ∧
 (¬ (x1 = 3) →
 ((x1 = 6) →
 wp_X12_holds_b22 Q x1 x2 σ) ∧
 (¬ (x1 = 6) →
 ((x1 ≠ 7) →
 wp_X12_holds_b27 Q x1 x2 0 σ) ∧
 (¬ (x1 ≠ 7) →
 wp_X12_holds_b22 Q x1 x2 σ))))
def wp_X12_laws_b59 (Q : Int → St → Prop) (K30 : Int → Int → St → Prop) (x2 : Int) (s0 : Int) (s1 : Int) (σ : St) : Prop :=
 ∀ v7 : Int, v7 = b_or s1 s0 →
 ∀ v8 : Int, v8 = w32 (x2 + 1) →
 K30 v7 v8 σ
def wp_X12_laws_l92 (Q : Int → St → Prop) (K69 : Int → Int → St → Prop) (K81 : Int → Int → Int → St → Prop) : Nat → Int → Int → Int → Int → St → Prop
  | 0, _, _, _, _, _ => False
  | n + 1, x1, x2, x3, x4, σ =>
    ((x4 ≥ 12) →
    ∀ v14 : Int, v14 = w32 (x3 + 1) →
    K81 x1 x2 v14 σ) ∧
    (¬ (x4 ≥ 12) →
    wp_X12_item x4 x2 x3 σ (fun r15 σ16 =>
    (0 ≤ r15 ∧ r15 < 768) ∧
    ∀ v17 : Int, v17 = b_or x1 (b_shl 1 (σ16 26 (r15.toNat))) →
    ∀ v18 : Int, v18 = w32 (x4 + 1) →
    (wp_X12_laws_l92 Q K69 K81 n) v17 x2 x3 v18 σ16))
def wp_X12_laws_l81 (Q : Int → St → Prop) (K69 : Int → Int → St → Prop) : Nat → Int → Int → Int → St → Prop
  | 0, _, _, _, _ => False
  | n + 1, x1, x2, x3, σ =>
    ((x3 > σ 0 27) →
    ∀ v11 : Int, v11 = w32 (x2 + 1) →
    K69 x1 v11 σ) ∧
    (¬ (x3 > σ 0 27) →
    wp_X12_laws_l92 Q K69 (wp_X12_laws_l81 Q K69 n) bigN x1 x2 x3 0 σ)
def wp_X12_laws_b161 (Q : Int → St → Prop) (K138 : Int → Int → Int → St → Prop) (x1 : Int) (x3 : Int) (s0 : Int) (s1 : Int) (σ : St) : Prop :=
 ∀ v12 : Int, v12 = b_or s1 s0 →
 ∀ v13 : Int, v13 = w32 (x3 + 1) →
 K138 x1 v12 v13 σ
def wp_X12_laws_l138 (Q : Int → St → Prop) : Nat → Int → Int → Int → St → Prop
  | 0, _, _, _, _ => False
  | n + 1, x1, x2, x3, σ =>
    ((x3 ≥ 9) →
    Q x2 σ) ∧
    (¬ (x3 ≥ 9) →
    wp_X12_holds x3 x1 σ (fun r9 σ10 =>
    ((r9 = 0) →
    wp_X12_laws_b161 Q (wp_X12_laws_l138 Q n) x1 x3 0 x2 σ10) ∧
    (¬ (r9 = 0) →
    wp_X12_laws_b161 Q (wp_X12_laws_l138 Q n) x1 x3 (b_shl 1 x3) x2 σ10)))
def wp_X12_laws_l69 (Q : Int → St → Prop) : Nat → Int → Int → St → Prop
  | 0, _, _, _ => False
  | n + 1, x1, x2, σ =>
    ((x2 ≥ σ 0 27) →
    wp_X12_laws_l138 Q bigN x1 0 0 σ) ∧
    (¬ (x2 ≥ σ 0 27) →
    ∀ v6 : Int, v6 = w32 (x2 + 1) →
    wp_X12_laws_l81 Q (wp_X12_laws_l69 Q n) bigN x1 x2 v6 σ)
def wp_X12_laws_l30 (Q : Int → St → Prop) : Nat → Int → Int → St → Prop
  | 0, _, _, _ => False
  | n + 1, x1, x2, σ =>
    ((x2 ≥ σ 0 1) →
    wp_X12_laws_l69 Q bigN x1 0 σ) ∧
    (¬ (x2 ≥ σ 0 1) →
    wp_X12_isIn x2 σ (fun r4 σ5 =>
    ((r4 = 0) →
    wp_X12_laws_b59 Q (wp_X12_laws_l30 Q n) x2 0 x1 σ5) ∧
    (¬ (r4 = 0) →
    (0 ≤ x2 ∧ x2 < 80) ∧
    wp_X12_laws_b59 Q (wp_X12_laws_l30 Q n) x2 (b_shl 1 (σ5 5 (x2.toNat))) x1 σ5)))
def wp_X12_laws (σ : St) (Q : Int → St → Prop) : Prop :=
 wp_X12_settles σ (fun r1 σ2 =>
 ((r1 ≠ 0) →
 ∀ v3 : Int, v3 = b_or (b_shl 1 (σ2 7 (Int.toNat 0))) (b_shl 1 (σ2 8 (Int.toNat 0))) →
 wp_X12_laws_l30 Q bigN v3 0 σ2) ∧
 (¬ (r1 ≠ 0) →
 Q ((-6)) σ2))
def wp_X12_isAt_b22 (Q : Int → St → Prop) (σ : St) : Prop :=
 Q 0 σ
def wp_X12_isAt (x1 : Int) (x2 : Int) (x3 : Int) (x4 : Int) (x5 : Int) (x6 : Int) (σ : St) (Q : Int → St → Prop) : Prop :=
 ((x1 ≠ x4) →
 wp_X12_isAt_b22 Q σ) ∧
 (¬ (x1 ≠ x4) →
 ((x2 ≠ x5) →
 wp_X12_isAt_b22 Q σ) ∧
 (¬ (x2 ≠ x5) →
 ((x3 ≠ x6) →
 wp_X12_isAt_b22 Q σ) ∧
 (¬ (x3 ≠ x6) →
 Q 1 σ)))
def wp_X12_casesWith_b211 (Q : Int → St → Prop) (K6 : Int → Int → Int → Int → Int → St → Prop) (K72 : Int → Int → Int → Int → Int → Int → St → Prop) (K98 : Int → Int → Int → Int → Int → Int → Int → St → Prop) (K113 : Int → Int → Int → Int → Int → Int → Int → Int → St → Prop) (x1 : Int) (x2 : Int) (x3 : Int) (x4 : Int) (x5 : Int) (x6 : Int) (x7 : Int) (x8 : Int) (σ : St) : Prop :=
 ∀ v19 : Int, v19 = w32 (x8 + 1) →
 K113 x1 x2 x3 x4 x5 x6 x7 v19 σ
def wp_X12_casesWith_b208 (Q : Int → St → Prop) (K6 : Int → Int → Int → Int → Int → St → Prop) (K72 : Int → Int → Int → Int → Int → Int → St → Prop) (K98 : Int → Int → Int → Int → Int → Int → Int → St → Prop) (K113 : Int → Int → Int → Int → Int → Int → Int → Int → St → Prop) (x1 : Int) (x2 : Int) (x3 : Int) (x5 : Int) (x6 : Int) (x7 : Int) (x8 : Int) (s0 : Int) (s1 : Int) (σ : St) : Prop :=
 ∀ v20 : Int, v20 = w32 (s1 + s0) →
 wp_X12_casesWith_b211 Q K6 K72 K98 K113 x1 x2 x3 v20 x5 x6 x7 x8 σ
def wp_X12_casesWith_b207 (Q : Int → St → Prop) (K6 : Int → Int → Int → Int → Int → St → Prop) (K72 : Int → Int → Int → Int → Int → Int → St → Prop) (K98 : Int → Int → Int → Int → Int → Int → Int → St → Prop) (K113 : Int → Int → Int → Int → Int → Int → Int → Int → St → Prop) (x1 : Int) (x2 : Int) (x3 : Int) (x5 : Int) (x6 : Int) (x7 : Int) (x8 : Int) (s0 : Int) (σ : St) : Prop :=
 wp_X12_casesWith_b208 Q K6 K72 K98 K113 x1 x2 x3 x5 x6 x7 x8 0 s0 σ
def wp_X12_casesWith_b165 (Q : Int → St → Prop) (K6 : Int → Int → Int → Int → Int → St → Prop) (K72 : Int → Int → Int → Int → Int → Int → St → Prop) (K98 : Int → Int → Int → Int → Int → Int → Int → St → Prop) (K113 : Int → Int → Int → Int → Int → Int → Int → Int → St → Prop) (x1 : Int) (x2 : Int) (x3 : Int) (x4 : Int) (x5 : Int) (x6 : Int) (x7 : Int) (x8 : Int) (σ : St) : Prop :=
 (0 ≤ x5 ∧ x5 < 80) ∧
 wp_X12_fits (σ 2 (x5.toNat)) x6 x8 σ (fun r15 σ16 =>
 ((r15 = 0) →
 wp_X12_casesWith_b207 Q K6 K72 K98 K113 x1 x2 x3 x5 x6 x7 x8 x4 σ16) ∧
 (¬ (r15 = 0) →
 (0 ≤ x5 ∧ x5 < 80) ∧
 wp_X12_fits (σ16 3 (x5.toNat)) x8 x7 σ16 (fun r17 σ18 =>
 ((r17 = 0) →
 wp_X12_casesWith_b207 Q K6 K72 K98 K113 x1 x2 x3 x5 x6 x7 x8 x4 σ18) ∧
 (¬ (r17 = 0) →
 wp_X12_casesWith_b208 Q K6 K72 K98 K113 x1 x2 x3 x5 x6 x7 x8 1 x4 σ18))))
def wp_X12_casesWith_l113 (Q : Int → St → Prop) (K6 : Int → Int → Int → Int → Int → St → Prop) (K72 : Int → Int → Int → Int → Int → Int → St → Prop) (K98 : Int → Int → Int → Int → Int → Int → Int → St → Prop) : Nat → Int → Int → Int → Int → Int → Int → Int → Int → St → Prop
  | 0, _, _, _, _, _, _, _, _, _ => False
  | n + 1, x1, x2, x3, x4, x5, x6, x7, x8, σ =>
    ((x8 ≥ x7) →
    ∀ v10 : Int, v10 = w32 (x7 + 1) →
    K98 x1 x2 x3 x4 x5 x6 v10 σ) ∧
    (¬ (x8 ≥ x7) →
    (0 ≤ x5 ∧ x5 < 80) ∧
    wp_X12_isAt (σ 2 (x5.toNat)) x6 x8 x1 x2 x3 σ (fun r11 σ12 =>
    ((r11 ≠ 0) →
    wp_X12_casesWith_b165 Q K6 K72 K98 (wp_X12_casesWith_l113 Q K6 K72 K98 n) x1 x2 x3 x4 x5 x6 x7 x8 σ12) ∧
    (¬ (r11 ≠ 0) →
    (0 ≤ x5 ∧ x5 < 80) ∧
    wp_X12_isAt (σ12 3 (x5.toNat)) x8 x7 x1 x2 x3 σ12 (fun r13 σ14 =>
    ((r13 ≠ 0) →
    wp_X12_casesWith_b165 Q K6 K72 K98 (wp_X12_casesWith_l113 Q K6 K72 K98 n) x1 x2 x3 x4 x5 x6 x7 x8 σ14) ∧
    (¬ (r13 ≠ 0) →
    wp_X12_casesWith_b211 Q K6 K72 K98 (wp_X12_casesWith_l113 Q K6 K72 K98 n) x1 x2 x3 x4 x5 x6 x7 x8 σ14)))))
def wp_X12_casesWith_l98 (Q : Int → St → Prop) (K6 : Int → Int → Int → Int → Int → St → Prop) (K72 : Int → Int → Int → Int → Int → Int → St → Prop) : Nat → Int → Int → Int → Int → Int → Int → Int → St → Prop
  | 0, _, _, _, _, _, _, _, _ => False
  | n + 1, x1, x2, x3, x4, x5, x6, x7, σ =>
    ((x7 > σ 0 27) →
    ∀ v8 : Int, v8 = w32 (x6 + 1) →
    K72 x1 x2 x3 x4 x5 v8 σ) ∧
    (¬ (x7 > σ 0 27) →
    ∀ v9 : Int, v9 = w32 (x6 + 1) →
    wp_X12_casesWith_l113 Q K6 K72 (wp_X12_casesWith_l98 Q K6 K72 n) bigN x1 x2 x3 x4 x5 x6 x7 v9 σ)
def wp_X12_casesWith_b229 (Q : Int → St → Prop) (K6 : Int → Int → Int → Int → Int → St → Prop) (x1 : Int) (x2 : Int) (x3 : Int) (x4 : Int) (x5 : Int) (σ : St) : Prop :=
 ∀ v6 : Int, v6 = w32 (x5 + 1) →
 K6 x1 x2 x3 x4 v6 σ
def wp_X12_casesWith_l72 (Q : Int → St → Prop) (K6 : Int → Int → Int → Int → Int → St → Prop) : Nat → Int → Int → Int → Int → Int → Int → St → Prop
  | 0, _, _, _, _, _, _, _ => False
  | n + 1, x1, x2, x3, x4, x5, x6, σ =>
    ((x6 ≥ σ 0 27) →
    wp_X12_casesWith_b229 Q K6 x1 x2 x3 x4 x5 σ) ∧
    (¬ (x6 ≥ σ 0 27) →
    (0 ≤ x5 ∧ x5 < 80) ∧
    ((σ 3 (x5.toNat) = (-1)) →
    wp_X12_casesWith_b229 Q K6 x1 x2 x3 x4 x5 σ) ∧
    (¬ (σ 3 (x5.toNat) = (-1)) →
    ∀ v7 : Int, v7 = w32 (x6 + 2) →
    wp_X12_casesWith_l98 Q K6 (wp_X12_casesWith_l72 Q K6 n) bigN x1 x2 x3 x4 x5 x6 v7 σ))
def wp_X12_casesWith_b69 (Q : Int → St → Prop) (K6 : Int → Int → Int → Int → Int → St → Prop) (x1 : Int) (x2 : Int) (x3 : Int) (x4 : Int) (x5 : Int) (σ : St) : Prop :=
 wp_X12_casesWith_l72 Q K6 bigN x1 x2 x3 x4 x5 0 σ
def wp_X12_casesWith_b66 (Q : Int → St → Prop) (K6 : Int → Int → Int → Int → Int → St → Prop) (x1 : Int) (x2 : Int) (x3 : Int) (x5 : Int) (s0 : Int) (s1 : Int) (σ : St) : Prop :=
 ∀ v5 : Int, v5 = w32 (s1 + s0) →
 wp_X12_casesWith_b69 Q K6 x1 x2 x3 v5 x5 σ
def wp_X12_casesWith_b65 (Q : Int → St → Prop) (K6 : Int → Int → Int → Int → Int → St → Prop) (x1 : Int) (x2 : Int) (x3 : Int) (x5 : Int) (s0 : Int) (σ : St) : Prop :=
 wp_X12_casesWith_b66 Q K6 x1 x2 x3 x5 0 s0 σ
def wp_X12_casesWith_l6 (Q : Int → St → Prop) : Nat → Int → Int → Int → Int → Int → St → Prop
  | 0, _, _, _, _, _, _ => False
  | n + 1, x1, x2, x3, x4, x5, σ =>
    ((x5 ≥ σ 0 1) →
    Q x4 σ) ∧
    (¬ (x5 ≥ σ 0 1) →
    wp_X12_isIn x5 σ (fun r1 σ2 =>
    ((r1 ≠ 0) →
    (0 ≤ x5 ∧ x5 < 80) ∧
    ((σ2 3 (x5.toNat) ≠ (-1)) →
    wp_X12_casesWith_b69 Q (wp_X12_casesWith_l6 Q n) x1 x2 x3 x4 x5 σ2) ∧
    (¬ (σ2 3 (x5.toNat) ≠ (-1)) →
    (0 ≤ x5 ∧ x5 < 80) ∧
    ((σ2 2 (x5.toNat) ≠ x1) →
    wp_X12_casesWith_b65 Q (wp_X12_casesWith_l6 Q n) x1 x2 x3 x5 x4 σ2) ∧
    (¬ (σ2 2 (x5.toNat) ≠ x1) →
    wp_X12_has x1 x2 x3 σ2 (fun r3 σ4 =>
    ((r3 = 0) →
    wp_X12_casesWith_b65 Q (wp_X12_casesWith_l6 Q n) x1 x2 x3 x5 x4 σ4) ∧
    (¬ (r3 = 0) →
    wp_X12_casesWith_b66 Q (wp_X12_casesWith_l6 Q n) x1 x2 x3 x5 1 x4 σ4))))) ∧
    (¬ (r1 ≠ 0) →
    wp_X12_casesWith_b229 Q (wp_X12_casesWith_l6 Q n) x1 x2 x3 x4 x5 σ2)))
def wp_X12_casesWith (x1 : Int) (x2 : Int) (x3 : Int) (σ : St) (Q : Int → St → Prop) : Prop :=
 wp_X12_casesWith_l6 Q bigN x1 x2 x3 0 0 σ
def wp_X12_casesOf_b221 (Q : Int → St → Prop) (K6 : Int → Int → Int → Int → Int → Int → St → Prop) (K104 : Int → Int → Int → Int → Int → Int → Int → St → Prop) (x1 : Int) (x2 : Int) (x3 : Int) (x4 : Int) (x6 : Int) (x7 : Int) (s0 : Int) (s1 : Int) (σ : St) : Prop :=
 ∀ v18 : Int, v18 = w32 (s1 + s0) →
 ∀ v19 : Int, v19 = w32 (x7 + 1) →
 K104 x1 x2 x3 x4 v18 x6 v19 σ
def wp_X12_casesOf_b207 (Q : Int → St → Prop) (K6 : Int → Int → Int → Int → Int → Int → St → Prop) (K104 : Int → Int → Int → Int → Int → Int → Int → St → Prop) (x1 : Int) (x2 : Int) (x3 : Int) (x4 : Int) (x5 : Int) (x6 : Int) (x7 : Int) (s0 : Int) (σ : St) : Prop :=
 ((s0 = 0) →
 wp_X12_casesOf_b221 Q K6 K104 x1 x2 x3 x4 x6 x7 0 x5 σ) ∧
 (¬ (s0 = 0) →
 wp_X12_casesOf_b221 Q K6 K104 x1 x2 x3 x4 x6 x7 1 x5 σ)
def wp_X12_casesOf_b164 (Q : Int → St → Prop) (K6 : Int → Int → Int → Int → Int → Int → St → Prop) (K104 : Int → Int → Int → Int → Int → Int → Int → St → Prop) (x1 : Int) (x2 : Int) (x3 : Int) (x4 : Int) (x5 : Int) (x6 : Int) (x7 : Int) (σ : St) : Prop :=
 wp_X12_casesOf_b207 Q K6 K104 x1 x2 x3 x4 x5 x6 x7 0 σ
def wp_X12_casesOf_b206 (Q : Int → St → Prop) (K6 : Int → Int → Int → Int → Int → Int → St → Prop) (K104 : Int → Int → Int → Int → Int → Int → Int → St → Prop) (x1 : Int) (x2 : Int) (x3 : Int) (x4 : Int) (x5 : Int) (x6 : Int) (x7 : Int) (σ : St) : Prop :=
 wp_X12_casesOf_b207 Q K6 K104 x1 x2 x3 x4 x5 x6 x7 0 σ
def wp_X12_casesOf_b230 (Q : Int → St → Prop) (K6 : Int → Int → Int → Int → Int → Int → St → Prop) (x1 : Int) (x2 : Int) (x3 : Int) (x4 : Int) (x5 : Int) (x6 : Int) (σ : St) : Prop :=
 ∀ v7 : Int, v7 = w32 (x6 + 1) →
 K6 x1 x2 x3 x4 x5 v7 σ
def wp_X12_casesOf_l104 (Q : Int → St → Prop) (K6 : Int → Int → Int → Int → Int → Int → St → Prop) : Nat → Int → Int → Int → Int → Int → Int → Int → St → Prop
  | 0, _, _, _, _, _, _, _, _ => False
  | n + 1, x1, x2, x3, x4, x5, x6, x7, σ =>
    ((x7 ≥ x3) →
    wp_X12_casesOf_b230 Q K6 x1 x2 x3 x4 x5 x6 σ) ∧
    (¬ (x7 ≥ x3) →
    (0 ≤ x6 ∧ x6 < 80) ∧
    ((σ 3 (x6.toNat) = (-1)) →
    wp_X12_casesOf_b230 Q K6 x1 x2 x3 x4 x5 x6 σ) ∧
    (¬ (σ 3 (x6.toNat) = (-1)) →
    ((x4 = 0) →
    (0 ≤ x6 ∧ x6 < 80) ∧
    wp_X12_isLetterAt (σ 2 (x6.toNat)) x2 x7 σ (fun r9 σ10 =>
    ((r9 = 0) →
    wp_X12_casesOf_b206 Q K6 (wp_X12_casesOf_l104 Q K6 n) x1 x2 x3 x4 x5 x6 x7 σ10) ∧
    (¬ (r9 = 0) →
    (0 ≤ x6 ∧ x6 < 80) ∧
    wp_X12_isLetterAt (σ10 3 (x6.toNat)) x7 x3 σ10 (fun r11 σ12 =>
    ((r11 = 0) →
    wp_X12_casesOf_b206 Q K6 (wp_X12_casesOf_l104 Q K6 n) x1 x2 x3 x4 x5 x6 x7 σ12) ∧
    (¬ (r11 = 0) →
    wp_X12_casesOf_b207 Q K6 (wp_X12_casesOf_l104 Q K6 n) x1 x2 x3 x4 x5 x6 x7 1 σ12))))) ∧
    (¬ (x4 = 0) →
    (0 ≤ x6 ∧ x6 < 80) ∧
    wp_X12_fits (σ 2 (x6.toNat)) x2 x7 σ (fun r13 σ14 =>
    ((r13 = 0) →
    wp_X12_casesOf_b164 Q K6 (wp_X12_casesOf_l104 Q K6 n) x1 x2 x3 x4 x5 x6 x7 σ14) ∧
    (¬ (r13 = 0) →
    (0 ≤ x6 ∧ x6 < 80) ∧
    wp_X12_fits (σ14 3 (x6.toNat)) x7 x3 σ14 (fun r15 σ16 =>
    ((r15 = 0) →
    wp_X12_casesOf_b164 Q K6 (wp_X12_casesOf_l104 Q K6 n) x1 x2 x3 x4 x5 x6 x7 σ16) ∧
    (¬ (r15 = 0) →
    wp_X12_casesOf_b207 Q K6 (wp_X12_casesOf_l104 Q K6 n) x1 x2 x3 x4 x5 x6 x7 1 σ16)))))))
def wp_X12_casesOf_b99 (Q : Int → St → Prop) (K6 : Int → Int → Int → Int → Int → Int → St → Prop) (x1 : Int) (x2 : Int) (x3 : Int) (x4 : Int) (x5 : Int) (x6 : Int) (σ : St) : Prop :=
 ∀ v8 : Int, v8 = w32 (x2 + 1) →
 wp_X12_casesOf_l104 Q K6 bigN x1 x2 x3 x4 x5 x6 v8 σ
def wp_X12_casesOf_b96 (Q : Int → St → Prop) (K6 : Int → Int → Int → Int → Int → Int → St → Prop) (x1 : Int) (x2 : Int) (x3 : Int) (x4 : Int) (x6 : Int) (s0 : Int) (s1 : Int) (σ : St) : Prop :=
 ∀ v17 : Int, v17 = w32 (s1 + s0) →
 wp_X12_casesOf_b99 Q K6 x1 x2 x3 x4 v17 x6 σ
def wp_X12_casesOf_b91 (Q : Int → St → Prop) (K6 : Int → Int → Int → Int → Int → Int → St → Prop) (x1 : Int) (x2 : Int) (x3 : Int) (x4 : Int) (x6 : Int) (s0 : Int) (σ : St) : Prop :=
 wp_X12_casesOf_b96 Q K6 x1 x2 x3 x4 x6 1 s0 σ
def wp_X12_casesOf_b95 (Q : Int → St → Prop) (K6 : Int → Int → Int → Int → Int → Int → St → Prop) (x1 : Int) (x2 : Int) (x3 : Int) (x4 : Int) (x6 : Int) (s0 : Int) (σ : St) : Prop :=
 wp_X12_casesOf_b96 Q K6 x1 x2 x3 x4 x6 0 s0 σ
def wp_X12_casesOf_l6 (Q : Int → St → Prop) : Nat → Int → Int → Int → Int → Int → Int → St → Prop
  | 0, _, _, _, _, _, _, _ => False
  | n + 1, x1, x2, x3, x4, x5, x6, σ =>
    ((x6 ≥ σ 0 1) →
    Q x5 σ) ∧
    (¬ (x6 ≥ σ 0 1) →
    wp_X12_isIn x6 σ (fun r1 σ2 =>
    ((r1 = 0) →
    wp_X12_casesOf_b230 Q (wp_X12_casesOf_l6 Q n) x1 x2 x3 x4 x5 x6 σ2) ∧
    (¬ (r1 = 0) →
    (0 ≤ x6 ∧ x6 < 80) ∧
    ((σ2 1 (x6.toNat) = x1) →
    (0 ≤ x6 ∧ x6 < 80) ∧
    ((σ2 3 (x6.toNat) ≠ (-1)) →
    wp_X12_casesOf_b99 Q (wp_X12_casesOf_l6 Q n) x1 x2 x3 x4 x5 x6 σ2) ∧
    (¬ (σ2 3 (x6.toNat) ≠ (-1)) →
    ((x4 = 0) →
    (0 ≤ x6 ∧ x6 < 80) ∧
    wp_X12_isLetterAt (σ2 2 (x6.toNat)) x2 x3 σ2 (fun r3 σ4 =>
    ((r3 = 0) →
    wp_X12_casesOf_b95 Q (wp_X12_casesOf_l6 Q n) x1 x2 x3 x4 x6 x5 σ4) ∧
    (¬ (r3 = 0) →
    wp_X12_casesOf_b91 Q (wp_X12_casesOf_l6 Q n) x1 x2 x3 x4 x6 x5 σ4))) ∧
    (¬ (x4 = 0) →
    (0 ≤ x6 ∧ x6 < 80) ∧
    wp_X12_fits (σ2 2 (x6.toNat)) x2 x3 σ2 (fun r5 σ6 =>
    ((r5 = 0) →
    wp_X12_casesOf_b95 Q (wp_X12_casesOf_l6 Q n) x1 x2 x3 x4 x6 x5 σ6) ∧
    (¬ (r5 = 0) →
    wp_X12_casesOf_b91 Q (wp_X12_casesOf_l6 Q n) x1 x2 x3 x4 x6 x5 σ6))))) ∧
    (¬ (σ2 1 (x6.toNat) = x1) →
    wp_X12_casesOf_b230 Q (wp_X12_casesOf_l6 Q n) x1 x2 x3 x4 x5 x6 σ2))))
def wp_X12_casesOf (x1 : Int) (x2 : Int) (x3 : Int) (x4 : Int) (σ : St) (Q : Int → St → Prop) : Prop :=
 wp_X12_casesOf_l6 Q bigN x1 x2 x3 x4 0 0 σ
def wp_X12_cases_b61 (Q : Int → St → Prop) (s0 : Int) (s1 : Int) (s2 : Int) (s3 : Int) (σ : St) : Prop :=
 wp_X12_casesOf s3 s2 s1 s0 σ (fun r9 σ10 =>
 Q r9 σ10)
def wp_X12_cases (x1 : Int) (x2 : Int) (x3 : Int) (x4 : Int) (σ : St) (Q : Int → St → Prop) : Prop :=
 wp_X12_isItem x1 x2 x3 σ (fun r1 σ2 =>
 ((r1 = 0) →
 Q ((-2)) σ2) ∧
 (¬ (r1 = 0) →
 wp_X12_in x4 0 2 σ2 (fun r3 σ4 =>
 ((r3 ≠ 0) →
 wp_X12_looks σ4 (fun r5 σ6 =>
 ((x4 ≠ 2) →
 ((x4 ≠ 1) →
 wp_X12_cases_b61 Q 0 x3 x2 x1 σ6) ∧
 (¬ (x4 ≠ 1) →
 wp_X12_cases_b61 Q 1 x3 x2 x1 σ6)) ∧
 (¬ (x4 ≠ 2) →
 wp_X12_casesWith x1 x2 x3 σ6 (fun r7 σ8 =>
 Q r7 σ8)))) ∧
 (¬ (r3 ≠ 0) →
 Q ((-2)) σ4))))
def wp_X12_itemsMany_b55 (Q : Int → St → Prop) (K8 : Int → Int → St → Prop) (K20 : Int → Int → Int → St → Prop) (K31 : Int → Int → Int → Int → St → Prop) (x2 : Int) (x3 : Int) (x4 : Int) (s0 : Int) (s1 : Int) (σ : St) : Prop :=
 ∀ v8 : Int, v8 = w32 (s1 + s0) →
 ∀ v9 : Int, v9 = w32 (x4 + 1) →
 K31 v8 x2 x3 v9 σ
def wp_X12_itemsMany_l31 (Q : Int → St → Prop) (K8 : Int → Int → St → Prop) (K20 : Int → Int → Int → St → Prop) : Nat → Int → Int → Int → Int → St → Prop
  | 0, _, _, _, _, _ => False
  | n + 1, x1, x2, x3, x4, σ =>
    ((x4 ≥ 12) →
    ∀ v5 : Int, v5 = w32 (x3 + 1) →
    K20 x1 x2 v5 σ) ∧
    (¬ (x4 ≥ 12) →
    wp_X12_has x4 x2 x3 σ (fun r6 σ7 =>
    ((r6 = 0) →
    wp_X12_itemsMany_b55 Q K8 K20 (wp_X12_itemsMany_l31 Q K8 K20 n) x2 x3 x4 0 x1 σ7) ∧
    (¬ (r6 = 0) →
    wp_X12_itemsMany_b55 Q K8 K20 (wp_X12_itemsMany_l31 Q K8 K20 n) x2 x3 x4 1 x1 σ7)))
def wp_X12_itemsMany_l20 (Q : Int → St → Prop) (K8 : Int → Int → St → Prop) : Nat → Int → Int → Int → St → Prop
  | 0, _, _, _, _ => False
  | n + 1, x1, x2, x3, σ =>
    ((x3 > σ 0 27) →
    ∀ v4 : Int, v4 = w32 (x2 + 1) →
    K8 x1 v4 σ) ∧
    (¬ (x3 > σ 0 27) →
    wp_X12_itemsMany_l31 Q K8 (wp_X12_itemsMany_l20 Q K8 n) bigN x1 x2 x3 0 σ)
def wp_X12_itemsMany_l8 (Q : Int → St → Prop) : Nat → Int → Int → St → Prop
  | 0, _, _, _ => False
  | n + 1, x1, x2, σ =>
    ((x2 ≥ σ 0 27) →
    Q x1 σ) ∧
    (¬ (x2 ≥ σ 0 27) →
    ∀ v3 : Int, v3 = w32 (x2 + 1) →
    wp_X12_itemsMany_l20 Q (wp_X12_itemsMany_l8 Q n) bigN x1 x2 v3 σ)
def wp_X12_itemsMany (σ : St) (Q : Int → St → Prop) : Prop :=
 wp_X12_looks σ (fun r1 σ2 =>
 wp_X12_itemsMany_l8 Q bigN 0 0 σ2)
def wp_X12_order (x0 : Int) (x1 : Int) (x2 : Int) (x3 : Int) (σ : St) (Q : Int → St → Prop) : Prop :=
 Q (w64 ((w64 ((w64 ((w64 ((w64 ((w64 ((w64 (x0 * 16)) + x3)) - x2)) * 16)) + x2)) * 16)) + x1)) σ
def wp_X12_settled_b138 (Q : Int → St → Prop) (K36 : Int → Int → Int → Int → St → Prop) (K50 : Int → Int → Int → Int → Int → Int → St → Prop) (K65 : Int → Int → Int → Int → Int → Int → Int → St → Prop) (K77 : Int → Int → Int → Int → Int → Int → Int → Int → St → Prop) (x1 : Int) (x2 : Int) (x3 : Int) (x5 : Int) (x6 : Int) (x8 : Int) (x9 : Int) (x10 : Int) (σ : St) : Prop :=
 ∀ v17 : Int, v17 = w32 (x10 + 1) →
 K77 x1 x2 x3 x5 x6 x8 x9 v17 σ
def wp_X12_settled_l77 (Q : Int → St → Prop) (K36 : Int → Int → Int → Int → St → Prop) (K50 : Int → Int → Int → Int → Int → Int → St → Prop) (K65 : Int → Int → Int → Int → Int → Int → Int → St → Prop) : Nat → Int → Int → Int → Int → Int → Int → Int → Int → St → Prop
  | 0, _, _, _, _, _, _, _, _, _ => False
  | n + 1, x1, x2, x3, x5, x6, x8, x9, x10, σ =>
    ((x10 ≥ 12) →
    ∀ v9 : Int, v9 = w32 (x9 + 1) →
    K65 x1 x2 x3 x5 x6 x8 v9 σ) ∧
    (¬ (x10 ≥ 12) →
    wp_X12_item x10 x8 x9 σ (fun r10 σ11 =>
    (0 ≤ r10 ∧ r10 < 768) ∧
    wp_X12_order (σ11 15 (r10.toNat)) x10 x8 x9 σ11 (fun r12 σ13 =>
    wp_X12_has x10 x8 x9 σ13 (fun r14 σ15 =>
    ((r14 = 0) →
    wp_X12_settled_b138 Q K36 K50 K65 (wp_X12_settled_l77 Q K36 K50 K65 n) x1 x2 x3 x5 x6 x8 x9 x10 σ15) ∧
    (¬ (r14 = 0) →
    ((r12 ≤ x3) →
    wp_X12_settled_b138 Q K36 K50 K65 (wp_X12_settled_l77 Q K36 K50 K65 n) x1 x2 x3 x5 x6 x8 x9 x10 σ15) ∧
    (¬ (r12 ≤ x3) →
    ∀ v16 : Int, v16 = min x6 r12 →
    wp_X12_settled_b138 Q K36 K50 K65 (wp_X12_settled_l77 Q K36 K50 K65 n) x1 x2 x3 x5 v16 x8 x9 x10 σ15))))))
def wp_X12_settled_l65 (Q : Int → St → Prop) (K36 : Int → Int → Int → Int → St → Prop) (K50 : Int → Int → Int → Int → Int → Int → St → Prop) : Nat → Int → Int → Int → Int → Int → Int → Int → St → Prop
  | 0, _, _, _, _, _, _, _, _ => False
  | n + 1, x1, x2, x3, x5, x6, x8, x9, σ =>
    ((x9 > σ 0 27) →
    ∀ v8 : Int, v8 = w32 (x8 + 1) →
    K50 x1 x2 x3 x5 x6 v8 σ) ∧
    (¬ (x9 > σ 0 27) →
    wp_X12_settled_l77 Q K36 K50 (wp_X12_settled_l65 Q K36 K50 n) bigN x1 x2 x3 x5 x6 x8 x9 0 σ)
def wp_X12_settled_l50 (Q : Int → St → Prop) (K36 : Int → Int → Int → Int → St → Prop) : Nat → Int → Int → Int → Int → Int → Int → St → Prop
  | 0, _, _, _, _, _, _, _ => False
  | n + 1, x1, x2, x3, x5, x6, x8, σ =>
    ((x8 ≥ σ 0 27) →
    ∀ v6 : Int, v6 = w32 (x5 + 1) →
    K36 x1 x2 x6 v6 σ) ∧
    (¬ (x8 ≥ σ 0 27) →
    ∀ v7 : Int, v7 = w32 (x8 + 1) →
    wp_X12_settled_l65 Q K36 (wp_X12_settled_l50 Q K36 n) bigN x1 x2 x3 x5 x6 x8 v7 σ)
def wp_X12_settled_l36 (Q : Int → St → Prop) : Nat → Int → Int → Int → Int → St → Prop
  | 0, _, _, _, _, _ => False
  | n + 1, x1, x2, x3, x5, σ =>
    ((x5 > x1) →
    ∀ v5 : Int, v5 = l_int (l_and (l_shr x3 4) 15) →
    ((x2 ≠ 0) →
    ((x2 ≠ 1) →
    ((x2 ≠ 2) →
    Q (l_int (l_shr x3 12)) σ) ∧
    (¬ (x2 ≠ 2) →
    Q (w32 (v5 + (l_int (l_and (l_shr x3 8) 15)))) σ)) ∧
    (¬ (x2 ≠ 1) →
    Q v5 σ)) ∧
    (¬ (x2 ≠ 0) →
    Q (l_int (l_and x3 15)) σ)) ∧
    (¬ (x5 > x1) →
    wp_X12_settled_l50 Q (wp_X12_settled_l36 Q n) bigN x1 x2 x3 x5 9223372036854775807 0 σ)
def wp_X12_settled (x1 : Int) (x2 : Int) (σ : St) (Q : Int → St → Prop) : Prop :=
 ((x1 < 0) →
 Q ((-2)) σ) ∧
 (¬ (x1 < 0) →
 wp_X12_in x2 0 3 σ (fun r1 σ2 =>
 ((r1 ≠ 0) →
 wp_X12_itemsMany σ2 (fun r3 σ4 =>
 ((x1 < r3) →
 wp_X12_settled_l36 Q bigN x1 x2 ((-1)) 0 σ4) ∧
 (¬ (x1 < r3) →
 Q ((-1)) σ4))) ∧
 (¬ (r1 ≠ 0) →
 Q ((-2)) σ2)))
def wp_X12_isPlace (x0 : Int) (σ : St) (Q : Int → St → Prop) : Prop :=
 wp_X12_in x0 0 15 σ (fun r1 σ2 =>
 (r1 = 0 ∨ r1 = 1) ∧ Q r1 σ2)
def wp_X12_manyOf (x1 : Int) (x2 : Int) (x3 : Int) (σ : St) (Q : Int → St → Prop) : Prop :=
 ((x1 < 100) →
 wp_X12_item x1 x2 x3 σ (fun r1 σ2 =>
 (0 ≤ r1 ∧ r1 < 768) ∧
 Q (σ2 38 (r1.toNat)) σ2)) ∧
 (¬ (x1 < 100) →
 wp_X12_fits x1 x2 x3 σ (fun r3 σ4 =>
 ((r3 = 0) →
 Q 0 σ4) ∧
 (¬ (r3 = 0) →
 Q 1 σ4)))
def wp_X12_nodeOf (x1 : Int) (x2 : Int) (x3 : Int) (x4 : Int) (σ : St) (Q : Int → St → Prop) : Prop :=
 ((x1 < 100) →
 wp_X12_item x1 x2 x3 σ (fun r1 σ2 =>
 (0 ≤ w32 ((w32 (r1 * 16)) + x4) ∧ w32 ((w32 (r1 * 16)) + x4) < 12288) ∧
 Q (σ2 37 ((w32 ((w32 (r1 * 16)) + x4)).toNat)) σ2)) ∧
 (¬ (x1 < 100) →
 Q ((-1)) σ)
def wp_X12_costNode (x1 : Int) (σ : St) (Q : Int → St → Prop) : Prop :=
 ((x1 ≠ (-1)) →
 (0 ≤ x1 ∧ x1 < 40000) ∧
 Q (σ 34 (x1.toNat)) σ) ∧
 (¬ (x1 ≠ (-1)) →
 Q 0 σ)
def wp_X12_stepsNode (x1 : Int) (σ : St) (Q : Int → St → Prop) : Prop :=
 ((x1 ≠ (-1)) →
 (0 ≤ x1 ∧ x1 < 40000) ∧
 Q (σ 35 (x1.toNat)) σ) ∧
 (¬ (x1 ≠ (-1)) →
 Q 0 σ)
def wp_X12_deepNode (x1 : Int) (σ : St) (Q : Int → St → Prop) : Prop :=
 ((x1 ≠ (-1)) →
 (0 ≤ x1 ∧ x1 < 40000) ∧
 Q (σ 36 (x1.toNat)) σ) ∧
 (¬ (x1 ≠ (-1)) →
 Q 0 σ)
def wp_X12_writes_b19 (Q : Int → St → Prop) (x1 : Int) (x2 : Int) (x3 : Int) (x4 : Int) (x5 : Int) (x6 : Int) (s0 : Int) (σ : St) : Prop :=
 (0 ≤ s0 ∧ s0 < 40000) ∧ ∀ σ1 : St, σ1 = upS σ 28 s0.toNat x1 →
 (0 ≤ s0 ∧ s0 < 40000) ∧ ∀ σ2 : St, σ2 = upS σ1 29 s0.toNat x2 →
 (0 ≤ s0 ∧ s0 < 40000) ∧ ∀ σ3 : St, σ3 = upS σ2 30 s0.toNat x3 →
 (0 ≤ s0 ∧ s0 < 40000) ∧ ∀ σ4 : St, σ4 = upS σ3 31 s0.toNat x4 →
 (0 ≤ s0 ∧ s0 < 40000) ∧ ∀ σ5 : St, σ5 = upS σ4 32 s0.toNat x5 →
 (0 ≤ s0 ∧ s0 < 40000) ∧ ∀ σ6 : St, σ6 = upS σ5 33 s0.toNat x6 →
 (0 ≤ x1 ∧ x1 < 80) ∧
 wp_X12_costNode x5 σ6 (fun r7 σ8 =>
 wp_X12_costNode x6 σ8 (fun r9 σ10 =>
 (0 ≤ s0 ∧ s0 < 40000) ∧ ∀ σ11 : St, σ11 = upS σ10 34 s0.toNat (w32 ((w32 ((σ6 4 (x1.toNat)) + r7)) + r9)) →
 wp_X12_stepsNode x5 σ11 (fun r12 σ13 =>
 wp_X12_stepsNode x6 σ13 (fun r14 σ15 =>
 (0 ≤ s0 ∧ s0 < 40000) ∧ ∀ σ16 : St, σ16 = upS σ15 35 s0.toNat (w32 ((w32 (1 + r12)) + r14)) →
 wp_X12_deepNode x5 σ16 (fun r17 σ18 =>
 wp_X12_deepNode x6 σ18 (fun r19 σ20 =>
 (0 ≤ s0 ∧ s0 < 40000) ∧ ∀ σ21 : St, σ21 = upS σ20 36 s0.toNat (w32 (1 + (max r17 r19))) →
 Q s0 σ21))))))
def wp_X12_writes (x1 : Int) (x2 : Int) (x3 : Int) (x4 : Int) (x5 : Int) (x6 : Int) (σ : St) (Q : Int → St → Prop) : Prop :=
 ((σ 0 55 = (-1)) →
 wp_X12_writes_b19 Q x1 x2 x3 x4 x5 x6 (σ 0 54) σ) ∧
 (¬ (σ 0 55 = (-1)) →
 wp_X12_writes_b19 Q x1 x2 x3 x4 x5 x6 (σ 0 55) σ)
def wp_X12_formOf_l5 (M : Int → Int → St → (Int → St → Prop) → Prop) (Q : Int → St → Prop) : Nat → Int → Int → St → Prop
  | 0, _, _, _ => False
  | n + 1, x3, x4, σ =>
    ((x3 = x4) →
    Q 0 σ) ∧
    (¬ (x3 = x4) →
    ((x3 = (-1)) →
    Q 0 σ) ∧
    (¬ (x3 = (-1)) →
    ((x4 = (-1)) →
    Q 0 σ) ∧
    (¬ (x4 = (-1)) →
    (0 ≤ x3 ∧ x3 < 40000) ∧
    (0 ≤ x4 ∧ x4 < 40000) ∧
    ((σ 28 (x3.toNat) = σ 28 (x4.toNat)) →
    (0 ≤ x3 ∧ x3 < 40000) ∧
    (0 ≤ x4 ∧ x4 < 40000) ∧
    ((σ 30 (x3.toNat) = σ 30 (x4.toNat)) →
    (0 ≤ x3 ∧ x3 < 40000) ∧
    (0 ≤ x4 ∧ x4 < 40000) ∧
    M (σ 32 (x3.toNat)) (σ 32 (x4.toNat)) σ (fun r1 σ2 =>
    ((r1 = 0) →
    (0 ≤ x3 ∧ x3 < 40000) ∧
    ∀ v3 : Int, v3 = σ2 33 (x3.toNat) →
    (0 ≤ x4 ∧ x4 < 40000) ∧
    ∀ v4 : Int, v4 = σ2 33 (x4.toNat) →
    (wp_X12_formOf_l5 M Q n) v3 v4 σ2) ∧
    (¬ (r1 = 0) →
    Q r1 σ2))) ∧
    (¬ (σ 30 (x3.toNat) = σ 30 (x4.toNat)) →
    (0 ≤ x3 ∧ x3 < 40000) ∧
    (0 ≤ x4 ∧ x4 < 40000) ∧
    Q (w32 ((σ 30 (x3.toNat)) - (σ 30 (x4.toNat)))) σ)) ∧
    (¬ (σ 28 (x3.toNat) = σ 28 (x4.toNat)) →
    (0 ≤ x3 ∧ x3 < 40000) ∧
    (0 ≤ x4 ∧ x4 < 40000) ∧
    Q (w32 ((σ 28 (x3.toNat)) - (σ 28 (x4.toNat)))) σ))))
def wp_X12_formOf : Nat → Int → Int → St → (Int → St → Prop) → Prop
  | 0, _, _, _, _ => False
  | d + 1, x1, x2, σ, Q =>
    wp_X12_formOf_l5 (wp_X12_formOf d) Q bigN x1 x2 σ
def wp_X12_isAhead (x1 : Int) (x2 : Int) (σ : St) (Q : Int → St → Prop) : Prop :=
 (0 ≤ x1 ∧ x1 < 40000) ∧
 (0 ≤ x2 ∧ x2 < 40000) ∧
 ((σ 34 (x1.toNat) = σ 34 (x2.toNat)) →
 wp_X12_formOf 400 x1 x2 σ (fun r1 σ2 =>
 ((r1 ≥ 0) →
 Q 0 σ2) ∧
 (¬ (r1 ≥ 0) →
 Q 1 σ2))) ∧
 (¬ (σ 34 (x1.toNat) = σ 34 (x2.toNat)) →
 (0 ≤ x1 ∧ x1 < 40000) ∧
 (0 ≤ x2 ∧ x2 < 40000) ∧
 ((σ 34 (x1.toNat) ≥ σ 34 (x2.toNat)) →
 Q 0 σ) ∧
 (¬ (σ 34 (x1.toNat) ≥ σ 34 (x2.toNat)) →
 Q 1 σ))
def wp_X12_takesNode_b18 (Q : Int → St → Prop) (σ : St) : Prop :=
 ∀ σ2 : St, σ2 = upS σ 0 55 ((-1)) →
 Q 0 σ2
def wp_X12_takesNode (σ : St) (Q : Int → St → Prop) : Prop :=
 ((σ 0 55 ≠ (-1)) →
 wp_X12_takesNode_b18 Q σ) ∧
 (¬ (σ 0 55 ≠ (-1)) →
 ∀ σ1 : St, σ1 = upS σ 0 54 (w32 ((σ 0 54) + 1)) →
 wp_X12_takesNode_b18 Q σ1)
def wp_X12_comes_l128 (Q : Int → St → Prop) : Nat → Int → Int → Int → Int → St → Prop
  | 0, _, _, _, _, _ => False
  | n + 1, x1, x2, x3, x4, σ =>
    ((x4 ≤ x3) →
    (0 ≤ w32 ((w32 (x2 * 16)) + x3) ∧ w32 ((w32 (x2 * 16)) + x3) < 12288) ∧ ∀ σ12 : St, σ12 = upS σ 37 (w32 ((w32 (x2 * 16)) + x3)).toNat x1 →
    Q 0 σ12) ∧
    (¬ (x4 ≤ x3) →
    (0 ≤ w32 ((w32 ((w32 (x2 * 16)) + x4)) - 1) ∧ w32 ((w32 ((w32 (x2 * 16)) + x4)) - 1) < 12288) ∧
    (0 ≤ w32 ((w32 (x2 * 16)) + x4) ∧ w32 ((w32 (x2 * 16)) + x4) < 12288) ∧ ∀ σ13 : St, σ13 = upS σ 37 (w32 ((w32 (x2 * 16)) + x4)).toNat (σ 37 ((w32 ((w32 ((w32 (x2 * 16)) + x4)) - 1)).toNat)) →
    ∀ v14 : Int, v14 = w32 (x4 + (-1)) →
    (wp_X12_comes_l128 Q n) x1 x2 x3 v14 σ13)
def wp_X12_comes_b118 (Q : Int → St → Prop) (x1 : Int) (x2 : Int) (x3 : Int) (σ : St) : Prop :=
 (0 ≤ x2 ∧ x2 < 768) ∧
 ∀ v11 : Int, v11 = w32 ((σ 38 (x2.toNat)) - 1) →
 wp_X12_comes_l128 Q bigN x1 x2 x3 v11 σ
def wp_X12_comes_b65 (Q : Int → St → Prop) (x1 : Int) (x2 : Int) (x3 : Int) (σ : St) : Prop :=
 ((x3 ≠ 16) →
 wp_X12_takesNode σ (fun r7 σ8 =>
 (0 ≤ x2 ∧ x2 < 768) ∧
 ((σ8 38 (x2.toNat) ≠ 16) →
 (0 ≤ x2 ∧ x2 < 768) ∧
 (0 ≤ x2 ∧ x2 < 768) ∧ ∀ σ9 : St, σ9 = upS σ8 38 x2.toNat (w32 ((σ8 38 (x2.toNat)) + 1)) →
 wp_X12_comes_b118 Q x1 x2 x3 σ9) ∧
 (¬ (σ8 38 (x2.toNat) ≠ 16) →
 (0 ≤ w32 ((w32 ((w32 (x2 * 16)) + 16)) - 1) ∧ w32 ((w32 ((w32 (x2 * 16)) + 16)) - 1) < 12288) ∧
 ∀ σ10 : St, σ10 = upS σ8 0 55 (σ8 37 ((w32 ((w32 ((w32 (x2 * 16)) + 16)) - 1)).toNat)) →
 wp_X12_comes_b118 Q x1 x2 x3 σ10))) ∧
 (¬ (x3 ≠ 16) →
 Q 0 σ)
def wp_X12_comes_l34 (Q : Int → St → Prop) : Nat → Int → Int → Int → St → Prop
  | 0, _, _, _, _ => False
  | n + 1, x1, x2, x3, σ =>
    ((x3 ≤ 0) →
    wp_X12_comes_b65 Q x1 x2 x3 σ) ∧
    (¬ (x3 ≤ 0) →
    (0 ≤ w32 ((w32 ((w32 (x2 * 16)) + x3)) - 1) ∧ w32 ((w32 ((w32 (x2 * 16)) + x3)) - 1) < 12288) ∧
    wp_X12_isAhead x1 (σ 37 ((w32 ((w32 ((w32 (x2 * 16)) + x3)) - 1)).toNat)) σ (fun r4 σ5 =>
    ((r4 = 0) →
    wp_X12_comes_b65 Q x1 x2 x3 σ5) ∧
    (¬ (r4 = 0) →
    ∀ v6 : Int, v6 = w32 (x3 + (-1)) →
    (wp_X12_comes_l34 Q n) x1 x2 v6 σ5)))
def wp_X12_comes (x1 : Int) (σ : St) (Q : Int → St → Prop) : Prop :=
 (0 ≤ x1 ∧ x1 < 40000) ∧
 (0 ≤ σ 28 (x1.toNat) ∧ σ 28 (x1.toNat) < 80) ∧
 (0 ≤ x1 ∧ x1 < 40000) ∧
 (0 ≤ x1 ∧ x1 < 40000) ∧
 wp_X12_item (σ 1 ((σ 28 (x1.toNat)).toNat)) (σ 29 (x1.toNat)) (σ 31 (x1.toNat)) σ (fun r1 σ2 =>
 (0 ≤ r1 ∧ r1 < 768) ∧
 ∀ v3 : Int, v3 = σ2 38 (r1.toNat) →
 wp_X12_comes_l34 Q bigN x1 r1 v3 σ2)
def wp_X12_laysTwoBest_l54 (Q : Int → St → Prop) (K5 : Int → Int → Int → Int → St → Prop) (K44 : Int → Int → Int → Int → Int → Int → Int → St → Prop) : Nat → Int → Int → Int → Int → Int → Int → Int → Int → St → Prop
  | 0, _, _, _, _, _, _, _, _, _ => False
  | n + 1, x1, x2, x3, x4, x5, x6, x7, x8, σ =>
    ((x8 ≥ x6) →
    ∀ v7 : Int, v7 = w32 (x7 + 1) →
    K44 x1 x2 x3 x4 x5 x6 v7 σ) ∧
    (¬ (x8 ≥ x6) →
    (0 ≤ x1 ∧ x1 < 80) ∧
    wp_X12_nodeOf (σ 2 (x1.toNat)) x2 x4 x7 σ (fun r8 σ9 =>
    (0 ≤ x1 ∧ x1 < 80) ∧
    wp_X12_nodeOf (σ9 3 (x1.toNat)) x4 x3 x8 σ9 (fun r10 σ11 =>
    wp_X12_writes x1 x2 x4 x3 r8 r10 σ11 (fun r12 σ13 =>
    wp_X12_comes r12 σ13 (fun r14 σ15 =>
    ∀ v16 : Int, v16 = w32 (x8 + 1) →
    (wp_X12_laysTwoBest_l54 Q K5 K44 n) x1 x2 x3 x4 x5 x6 x7 v16 σ15)))))
def wp_X12_laysTwoBest_l44 (Q : Int → St → Prop) (K5 : Int → Int → Int → Int → St → Prop) : Nat → Int → Int → Int → Int → Int → Int → Int → St → Prop
  | 0, _, _, _, _, _, _, _, _ => False
  | n + 1, x1, x2, x3, x4, x5, x6, x7, σ =>
    ((x7 ≥ x5) →
    ∀ v6 : Int, v6 = w32 (x4 + 1) →
    K5 x1 x2 x3 v6 σ) ∧
    (¬ (x7 ≥ x5) →
    wp_X12_laysTwoBest_l54 Q K5 (wp_X12_laysTwoBest_l44 Q K5 n) bigN x1 x2 x3 x4 x5 x6 x7 0 σ)
def wp_X12_laysTwoBest_l5 (Q : Int → St → Prop) : Nat → Int → Int → Int → Int → St → Prop
  | 0, _, _, _, _, _ => False
  | n + 1, x1, x2, x3, x4, σ =>
    ((x4 ≥ x3) →
    Q 0 σ) ∧
    (¬ (x4 ≥ x3) →
    (0 ≤ x1 ∧ x1 < 80) ∧
    wp_X12_manyOf (σ 2 (x1.toNat)) x2 x4 σ (fun r2 σ3 =>
    (0 ≤ x1 ∧ x1 < 80) ∧
    wp_X12_manyOf (σ3 3 (x1.toNat)) x4 x3 σ3 (fun r4 σ5 =>
    wp_X12_laysTwoBest_l44 Q (wp_X12_laysTwoBest_l5 Q n) bigN x1 x2 x3 x4 r2 r4 0 σ5)))
def wp_X12_laysTwoBest (x1 : Int) (x2 : Int) (x3 : Int) (σ : St) (Q : Int → St → Prop) : Prop :=
 ∀ v1 : Int, v1 = w32 (x2 + 1) →
 wp_X12_laysTwoBest_l5 Q bigN x1 x2 x3 v1 σ
def wp_X12_firstPending_b159 (Q : Int → St → Prop) (K4 : Int → Int → St → Prop) (x1 : Int) (x2 : Int) (σ : St) : Prop :=
 ∀ v6 : Int, v6 = w32 (x2 + 1) →
 K4 x1 v6 σ
def wp_X12_firstPending_b88 (Q : Int → St → Prop) (K4 : Int → Int → St → Prop) (x2 : Int) (σ : St) : Prop :=
 wp_X12_firstPending_b159 Q K4 x2 x2 σ
def wp_X12_firstPending_l4 (Q : Int → St → Prop) : Nat → Int → Int → St → Prop
  | 0, _, _, _ => False
  | n + 1, x1, x2, σ =>
    ((x2 ≥ σ 0 59) →
    Q x1 σ) ∧
    (¬ (x2 ≥ σ 0 59) →
    (0 ≤ x2 ∧ x2 < 1000) ∧
    ∀ v1 : Int, v1 = σ 39 (x2.toNat) →
    ((v1 = (-1)) →
    wp_X12_firstPending_b159 Q (wp_X12_firstPending_l4 Q n) x1 x2 σ) ∧
    (¬ (v1 = (-1)) →
    (0 ≤ v1 ∧ v1 < 40000) ∧
    (0 ≤ σ 28 (v1.toNat) ∧ σ 28 (v1.toNat) < 80) ∧
    (0 ≤ v1 ∧ v1 < 40000) ∧
    (0 ≤ v1 ∧ v1 < 40000) ∧
    wp_X12_item (σ 1 ((σ 28 (v1.toNat)).toNat)) (σ 29 (v1.toNat)) (σ 31 (v1.toNat)) σ (fun r2 σ3 =>
    (0 ≤ r2 ∧ r2 < 768) ∧
    ((σ3 38 (r2.toNat) ≠ 16) →
    ((x1 = (-1)) →
    wp_X12_firstPending_b88 Q (wp_X12_firstPending_l4 Q n) x2 σ3) ∧
    (¬ (x1 = (-1)) →
    (0 ≤ v1 ∧ v1 < 40000) ∧
    (0 ≤ x1 ∧ x1 < 1000) ∧
    (0 ≤ σ3 39 (x1.toNat) ∧ σ3 39 (x1.toNat) < 40000) ∧
    ((σ3 34 (v1.toNat) ≥ σ3 34 ((σ3 39 (x1.toNat)).toNat)) →
    (0 ≤ v1 ∧ v1 < 40000) ∧
    (0 ≤ x1 ∧ x1 < 1000) ∧
    (0 ≤ σ3 39 (x1.toNat) ∧ σ3 39 (x1.toNat) < 40000) ∧
    ((σ3 34 (v1.toNat) ≠ σ3 34 ((σ3 39 (x1.toNat)).toNat)) →
    wp_X12_firstPending_b159 Q (wp_X12_firstPending_l4 Q n) x1 x2 σ3) ∧
    (¬ (σ3 34 (v1.toNat) ≠ σ3 34 ((σ3 39 (x1.toNat)).toNat)) →
    (0 ≤ v1 ∧ v1 < 40000) ∧
    (0 ≤ σ3 28 (v1.toNat) ∧ σ3 28 (v1.toNat) < 80) ∧
    (0 ≤ x1 ∧ x1 < 1000) ∧
    (0 ≤ σ3 39 (x1.toNat) ∧ σ3 39 (x1.toNat) < 40000) ∧
    (0 ≤ σ3 28 ((σ3 39 (x1.toNat)).toNat) ∧ σ3 28 ((σ3 39 (x1.toNat)).toNat) < 80) ∧
    ((σ3 1 ((σ3 28 (v1.toNat)).toNat) ≠ σ3 1 ((σ3 28 ((σ3 39 (x1.toNat)).toNat)).toNat)) →
    wp_X12_firstPending_b159 Q (wp_X12_firstPending_l4 Q n) x1 x2 σ3) ∧
    (¬ (σ3 1 ((σ3 28 (v1.toNat)).toNat) ≠ σ3 1 ((σ3 28 ((σ3 39 (x1.toNat)).toNat)).toNat)) →
    (0 ≤ x1 ∧ x1 < 1000) ∧
    wp_X12_formOf 400 v1 (σ3 39 (x1.toNat)) σ3 (fun r4 σ5 =>
    ((r4 ≥ 0) →
    wp_X12_firstPending_b159 Q (wp_X12_firstPending_l4 Q n) x1 x2 σ5) ∧
    (¬ (r4 ≥ 0) →
    wp_X12_firstPending_b159 Q (wp_X12_firstPending_l4 Q n) x2 x2 σ5))))) ∧
    (¬ (σ3 34 (v1.toNat) ≥ σ3 34 ((σ3 39 (x1.toNat)).toNat)) →
    wp_X12_firstPending_b88 Q (wp_X12_firstPending_l4 Q n) x2 σ3))) ∧
    (¬ (σ3 38 (r2.toNat) ≠ 16) →
    wp_X12_firstPending_b159 Q (wp_X12_firstPending_l4 Q n) x1 x2 σ3))))
def wp_X12_firstPending (σ : St) (Q : Int → St → Prop) : Prop :=
 wp_X12_firstPending_l4 Q bigN ((-1)) 0 σ
def wp_X12_waits (x1 : Int) (σ : St) (Q : Int → St → Prop) : Prop :=
 (0 ≤ σ 0 59 ∧ σ 0 59 < 1000) ∧ ∀ σ1 : St, σ1 = upS σ 39 (σ 0 59).toNat x1 →
 ∀ σ2 : St, σ2 = upS σ1 0 59 (w32 ((σ1 0 59) + 1)) →
 Q 0 σ2
def wp_X12_laysBestSpan_b35 (Q : Int → St → Prop) (K2 : Int → Int → Int → St → Prop) (x1 : Int) (x2 : Int) (x3 : Int) (σ : St) : Prop :=
 ∀ v9 : Int, v9 = w32 (x3 + 1) →
 K2 x1 x2 v9 σ
def wp_X12_laysBestSpan_l70 (Q : Int → St → Prop) (K53 : Int → Int → Int → St → Prop) : Nat → Int → Int → Int → Int → Int → St → Prop
  | 0, _, _, _, _, _, _ => False
  | n + 1, x1, x2, x3, x4, x5, σ =>
    (0 ≤ x4 ∧ x4 < 768) ∧
    ((x5 ≥ σ 38 (x4.toNat)) →
    (0 ≤ x4 ∧ x4 < 768) ∧ ∀ σ22 : St, σ22 = upS σ 38 x4.toNat 0 →
    ∀ v23 : Int, v23 = w32 (x3 + 1) →
    K53 x1 x2 v23 σ22) ∧
    (¬ (x5 ≥ σ 38 (x4.toNat)) →
    (0 ≤ w32 ((w32 (x4 * 16)) + x5) ∧ w32 ((w32 (x4 * 16)) + x5) < 12288) ∧
    wp_X12_waits (σ 37 ((w32 ((w32 (x4 * 16)) + x5)).toNat)) σ (fun r24 σ25 =>
    ∀ v26 : Int, v26 = w32 (x5 + 1) →
    (wp_X12_laysBestSpan_l70 Q K53 n) x1 x2 x3 x4 v26 σ25))
def wp_X12_laysBestSpan_b194 (Q : Int → St → Prop) (K121 : Int → Int → Int → St → Prop) (x1 : Int) (x2 : Int) (x3 : Int) (σ : St) : Prop :=
 ∀ v34 : Int, v34 = w32 (x3 + 1) →
 K121 x1 x2 v34 σ
def wp_X12_laysBestSpan_b346 (Q : Int → St → Prop) (K205 : Int → Int → Int → St → Prop) (K282 : Int → Int → Int → Int → Int → St → Prop) (x1 : Int) (x2 : Int) (x4 : Int) (x5 : Int) (x7 : Int) (σ : St) : Prop :=
 ∀ v45 : Int, v45 = w32 (x7 + 1) →
 K282 x1 x2 x4 x5 v45 σ
def wp_X12_laysBestSpan_l282 (Q : Int → St → Prop) (K205 : Int → Int → Int → St → Prop) : Nat → Int → Int → Int → Int → Int → St → Prop
  | 0, _, _, _, _, _, _ => False
  | n + 1, x1, x2, x4, x5, x7, σ =>
    ((x7 ≥ σ 0 1) →
    wp_X12_firstPending σ (fun r35 σ36 =>
    K205 x1 x2 r35 σ36)) ∧
    (¬ (x7 ≥ σ 0 1) →
    wp_X12_isIn x7 σ (fun r37 σ38 =>
    ((r37 = 0) →
    wp_X12_laysBestSpan_b346 Q K205 (wp_X12_laysBestSpan_l282 Q K205 n) x1 x2 x4 x5 x7 σ38) ∧
    (¬ (r37 = 0) →
    (0 ≤ x7 ∧ x7 < 80) ∧
    ((σ38 3 (x7.toNat) ≠ (-1)) →
    wp_X12_laysBestSpan_b346 Q K205 (wp_X12_laysBestSpan_l282 Q K205 n) x1 x2 x4 x5 x7 σ38) ∧
    (¬ (σ38 3 (x7.toNat) ≠ (-1)) →
    (0 ≤ x7 ∧ x7 < 80) ∧
    ((σ38 2 (x7.toNat) = x5) →
    wp_X12_writes x7 x1 ((-1)) x2 x4 ((-1)) σ38 (fun r39 σ40 =>
    wp_X12_waits r39 σ40 (fun r41 σ42 =>
    wp_X12_takesNode σ42 (fun r43 σ44 =>
    wp_X12_laysBestSpan_b346 Q K205 (wp_X12_laysBestSpan_l282 Q K205 n) x1 x2 x4 x5 x7 σ44)))) ∧
    (¬ (σ38 2 (x7.toNat) = x5) →
    wp_X12_laysBestSpan_b346 Q K205 (wp_X12_laysBestSpan_l282 Q K205 n) x1 x2 x4 x5 x7 σ38)))))
def wp_X12_laysBestSpan_l205 (Q : Int → St → Prop) : Nat → Int → Int → Int → St → Prop
  | 0, _, _, _, _ => False
  | n + 1, x1, x2, x3, σ =>
    ((x3 = (-1)) →
    Q 0 σ) ∧
    (¬ (x3 = (-1)) →
    (0 ≤ x3 ∧ x3 < 1000) ∧
    ∀ v27 : Int, v27 = σ 39 (x3.toNat) →
    (0 ≤ x3 ∧ x3 < 1000) ∧ ∀ σ28 : St, σ28 = upS σ 39 x3.toNat ((-1)) →
    (0 ≤ v27 ∧ v27 < 40000) ∧
    (0 ≤ σ28 28 (v27.toNat) ∧ σ28 28 (v27.toNat) < 80) ∧
    ∀ v29 : Int, v29 = σ28 1 ((σ28 28 (v27.toNat)).toNat) →
    wp_X12_item v29 x1 x2 σ28 (fun r30 σ31 =>
    (0 ≤ r30 ∧ r30 < 768) ∧
    (0 ≤ w32 ((w32 (r30 * 16)) + (σ31 38 (r30.toNat))) ∧ w32 ((w32 (r30 * 16)) + (σ31 38 (r30.toNat))) < 12288) ∧ ∀ σ32 : St, σ32 = upS σ31 37 (w32 ((w32 (r30 * 16)) + (σ31 38 (r30.toNat)))).toNat v27 →
    (0 ≤ r30 ∧ r30 < 768) ∧
    (0 ≤ r30 ∧ r30 < 768) ∧ ∀ σ33 : St, σ33 = upS σ32 38 r30.toNat (w32 ((σ32 38 (r30.toNat)) + 1)) →
    wp_X12_laysBestSpan_l282 Q (wp_X12_laysBestSpan_l205 Q n) bigN x1 x2 v27 v29 0 σ33))
def wp_X12_laysBestSpan_l121 (Q : Int → St → Prop) : Nat → Int → Int → Int → St → Prop
  | 0, _, _, _, _ => False
  | n + 1, x1, x2, x3, σ =>
    ((x3 ≥ σ 0 1) →
    wp_X12_firstPending σ (fun r10 σ11 =>
    wp_X12_laysBestSpan_l205 Q bigN x1 x2 r10 σ11)) ∧
    (¬ (x3 ≥ σ 0 1) →
    wp_X12_isIn x3 σ (fun r12 σ13 =>
    ((r12 = 0) →
    wp_X12_laysBestSpan_b194 Q (wp_X12_laysBestSpan_l121 Q n) x1 x2 x3 σ13) ∧
    (¬ (r12 = 0) →
    (0 ≤ x3 ∧ x3 < 80) ∧
    ((σ13 3 (x3.toNat) ≠ (-1)) →
    wp_X12_laysBestSpan_b194 Q (wp_X12_laysBestSpan_l121 Q n) x1 x2 x3 σ13) ∧
    (¬ (σ13 3 (x3.toNat) ≠ (-1)) →
    (0 ≤ x3 ∧ x3 < 80) ∧
    ((σ13 2 (x3.toNat) < 100) →
    wp_X12_laysBestSpan_b194 Q (wp_X12_laysBestSpan_l121 Q n) x1 x2 x3 σ13) ∧
    (¬ (σ13 2 (x3.toNat) < 100) →
    (0 ≤ x3 ∧ x3 < 80) ∧
    wp_X12_fits (σ13 2 (x3.toNat)) x1 x2 σ13 (fun r14 σ15 =>
    ((r14 ≠ 0) →
    wp_X12_writes x3 x1 ((-1)) x2 ((-1)) ((-1)) σ15 (fun r16 σ17 =>
    wp_X12_waits r16 σ17 (fun r18 σ19 =>
    wp_X12_takesNode σ19 (fun r20 σ21 =>
    wp_X12_laysBestSpan_b194 Q (wp_X12_laysBestSpan_l121 Q n) x1 x2 x3 σ21)))) ∧
    (¬ (r14 ≠ 0) →
    wp_X12_laysBestSpan_b194 Q (wp_X12_laysBestSpan_l121 Q n) x1 x2 x3 σ15)))))))
def wp_X12_laysBestSpan_l53 (Q : Int → St → Prop) : Nat → Int → Int → Int → St → Prop
  | 0, _, _, _, _ => False
  | n + 1, x1, x2, x3, σ =>
    ((x3 ≥ 12) →
    wp_X12_laysBestSpan_l121 Q bigN x1 x2 0 σ) ∧
    (¬ (x3 ≥ 12) →
    wp_X12_item x3 x1 x2 σ (fun r7 σ8 =>
    wp_X12_laysBestSpan_l70 Q (wp_X12_laysBestSpan_l53 Q n) bigN x1 x2 x3 r7 0 σ8))
def wp_X12_laysBestSpan_l2 (Q : Int → St → Prop) : Nat → Int → Int → Int → St → Prop
  | 0, _, _, _, _ => False
  | n + 1, x1, x2, x3, σ =>
    ((x3 ≥ σ 0 1) →
    ∀ σ1 : St, σ1 = upS σ 0 59 0 →
    ∀ σ2 : St, σ2 = upS σ1 0 55 ((-1)) →
    wp_X12_laysBestSpan_l53 Q bigN x1 x2 0 σ2) ∧
    (¬ (x3 ≥ σ 0 1) →
    wp_X12_isIn x3 σ (fun r3 σ4 =>
    ((r3 = 0) →
    wp_X12_laysBestSpan_b35 Q (wp_X12_laysBestSpan_l2 Q n) x1 x2 x3 σ4) ∧
    (¬ (r3 = 0) →
    (0 ≤ x3 ∧ x3 < 80) ∧
    ((σ4 3 (x3.toNat) = (-1)) →
    wp_X12_laysBestSpan_b35 Q (wp_X12_laysBestSpan_l2 Q n) x1 x2 x3 σ4) ∧
    (¬ (σ4 3 (x3.toNat) = (-1)) →
    wp_X12_laysTwoBest x3 x1 x2 σ4 (fun r5 σ6 =>
    wp_X12_laysBestSpan_b35 Q (wp_X12_laysBestSpan_l2 Q n) x1 x2 x3 σ6)))))
def wp_X12_laysBestSpan (x1 : Int) (x2 : Int) (σ : St) (Q : Int → St → Prop) : Prop :=
 wp_X12_laysBestSpan_l2 Q bigN x1 x2 0 σ
def wp_X12_laysBest_l48 (Q : Int → St → Prop) (K38 : Int → St → Prop) : Nat → Int → Int → St → Prop
  | 0, _, _, _ => False
  | n + 1, x1, x2, σ =>
    ((w32 (x2 + x1) > σ 0 27) →
    ∀ v7 : Int, v7 = w32 (x1 + 1) →
    K38 v7 σ) ∧
    (¬ (w32 (x2 + x1) > σ 0 27) →
    wp_X12_laysBestSpan x2 (w32 (x2 + x1)) σ (fun r8 σ9 =>
    ∀ v10 : Int, v10 = w32 (x2 + 1) →
    (wp_X12_laysBest_l48 Q K38 n) x1 v10 σ9))
def wp_X12_laysBest_l38 (Q : Int → St → Prop) : Nat → Int → St → Prop
  | 0, _, _ => False
  | n + 1, x1, σ =>
    ((x1 > σ 0 27) →
    Q 0 σ) ∧
    (¬ (x1 > σ 0 27) →
    wp_X12_laysBest_l48 Q (wp_X12_laysBest_l38 Q n) bigN x1 0 σ)
def wp_X12_laysBest_l16 (Q : Int → St → Prop) : Nat → Int → St → Prop
  | 0, _, _ => False
  | n + 1, x1, σ =>
    ((x1 ≥ 768) →
    wp_X12_laysBest_l38 Q bigN 1 σ) ∧
    (¬ (x1 ≥ 768) →
    (0 ≤ x1 ∧ x1 < 768) ∧ ∀ σ5 : St, σ5 = upS σ 38 x1.toNat 0 →
    ∀ v6 : Int, v6 = w32 (x1 + 1) →
    (wp_X12_laysBest_l16 Q n) v6 σ5)
def wp_X12_laysBest (σ : St) (Q : Int → St → Prop) : Prop :=
 wp_X12_looks σ (fun r1 σ2 =>
 ∀ σ3 : St, σ3 = upS σ2 0 54 0 →
 ∀ σ4 : St, σ4 = upS σ3 0 55 ((-1)) →
 wp_X12_laysBest_l16 Q bigN 0 σ4)
def wp_X12_treeOf (x1 : Int) (x2 : Int) (x3 : Int) (x4 : Int) (σ : St) (Q : Int → St → Prop) : Prop :=
 wp_X12_item x1 x2 x3 σ (fun r1 σ2 =>
 (0 ≤ r1 ∧ r1 < 768) ∧
 ((x4 ≥ σ2 38 (r1.toNat)) →
 Q ((-1)) σ2) ∧
 (¬ (x4 ≥ σ2 38 (r1.toNat)) →
 (0 ≤ w32 ((w32 (r1 * 16)) + x4) ∧ w32 ((w32 (r1 * 16)) + x4) < 12288) ∧
 Q (σ2 37 ((w32 ((w32 (r1 * 16)) + x4)).toNat)) σ2))
def wp_X12_best (x1 : Int) (x2 : Int) (x3 : Int) (x4 : Int) (σ : St) (Q : Int → St → Prop) : Prop :=
 wp_X12_isItem x1 x2 x3 σ (fun r1 σ2 =>
 ((r1 = 0) →
 Q ((-2)) σ2) ∧
 (¬ (r1 = 0) →
 wp_X12_isPlace x4 σ2 (fun r3 σ4 =>
 ((r3 ≠ 0) →
 wp_X12_laysBest σ4 (fun r5 σ6 =>
 wp_X12_treeOf x1 x2 x3 x4 σ6 (fun r7 σ8 =>
 ((r7 ≠ (-1)) →
 (0 ≤ r7 ∧ r7 < 40000) ∧
 Q (σ8 34 (r7.toNat)) σ8) ∧
 (¬ (r7 ≠ (-1)) →
 Q ((-1)) σ8)))) ∧
 (¬ (r3 ≠ 0) →
 Q ((-2)) σ4))))
def wp_X12_size (x1 : Int) (x2 : Int) (x3 : Int) (x4 : Int) (x5 : Int) (σ : St) (Q : Int → St → Prop) : Prop :=
 wp_X12_isItem x1 x2 x3 σ (fun r1 σ2 =>
 ((r1 = 0) →
 Q ((-2)) σ2) ∧
 (¬ (r1 = 0) →
 wp_X12_isPlace x4 σ2 (fun r3 σ4 =>
 ((r3 = 0) →
 Q ((-2)) σ4) ∧
 (¬ (r3 = 0) →
 wp_X12_in x5 0 1 σ4 (fun r5 σ6 =>
 ((r5 ≠ 0) →
 wp_X12_laysBest σ6 (fun r7 σ8 =>
 wp_X12_treeOf x1 x2 x3 x4 σ8 (fun r9 σ10 =>
 ((r9 ≠ (-1)) →
 ((x5 ≠ 0) →
 (0 ≤ r9 ∧ r9 < 40000) ∧
 Q (σ10 36 (r9.toNat)) σ10) ∧
 (¬ (x5 ≠ 0) →
 (0 ≤ r9 ∧ r9 < 40000) ∧
 Q (σ10 35 (r9.toNat)) σ10)) ∧
 (¬ (r9 ≠ (-1)) →
 Q ((-1)) σ10)))) ∧
 (¬ (r5 ≠ 0) →
 Q ((-2)) σ6))))))
def wp_X12_stepOf_b73 (Q : Int → St → Prop) (K22 : Int → Int → St → Prop) (x3 : Int) (x4 : Int) (σ : St) : Prop :=
 K22 x3 x4 σ
def wp_X12_stepOf_l22 (Q : Int → St → Prop) : Nat → Int → Int → St → Prop
  | 0, _, _, _ => False
  | n + 1, x3, x4, σ =>
    ((x4 ≤ 0) →
    Q x3 σ) ∧
    (¬ (x4 ≤ 0) →
    ∀ v1 : Int, v1 = w32 (x4 + (-1)) →
    (0 ≤ x3 ∧ x3 < 40000) ∧
    wp_X12_stepsNode (σ 32 (x3.toNat)) σ (fun r2 σ3 =>
    ((v1 ≥ r2) →
    ∀ v4 : Int, v4 = w32 (v1 - r2) →
    (0 ≤ x3 ∧ x3 < 40000) ∧
    ∀ v5 : Int, v5 = σ3 33 (x3.toNat) →
    wp_X12_stepOf_b73 Q (wp_X12_stepOf_l22 Q n) v5 v4 σ3) ∧
    (¬ (v1 ≥ r2) →
    (0 ≤ x3 ∧ x3 < 40000) ∧
    ∀ v6 : Int, v6 = σ3 32 (x3.toNat) →
    wp_X12_stepOf_b73 Q (wp_X12_stepOf_l22 Q n) v6 v1 σ3)))
def wp_X12_stepOf (x1 : Int) (x2 : Int) (σ : St) (Q : Int → St → Prop) : Prop :=
 ((x1 = (-1)) →
 Q ((-1)) σ) ∧
 (¬ (x1 = (-1)) →
 (0 ≤ x1 ∧ x1 < 40000) ∧
 ((x2 < σ 35 (x1.toNat)) →
 wp_X12_stepOf_l22 Q bigN x1 x2 σ) ∧
 (¬ (x2 < σ 35 (x1.toNat)) →
 Q ((-1)) σ))
def wp_X12_step (x1 : Int) (x2 : Int) (x3 : Int) (x4 : Int) (x5 : Int) (σ : St) (Q : Int → St → Prop) : Prop :=
 wp_X12_isItem x1 x2 x3 σ (fun r1 σ2 =>
 ((r1 = 0) →
 Q ((-2)) σ2) ∧
 (¬ (r1 = 0) →
 wp_X12_isPlace x4 σ2 (fun r3 σ4 =>
 ((r3 = 0) →
 Q ((-2)) σ4) ∧
 (¬ (r3 = 0) →
 ((x5 ≥ 0) →
 wp_X12_laysBest σ4 (fun r5 σ6 =>
 wp_X12_treeOf x1 x2 x3 x4 σ6 (fun r7 σ8 =>
 wp_X12_stepOf r7 x5 σ8 (fun r9 σ10 =>
 ((r9 ≠ (-1)) →
 (0 ≤ r9 ∧ r9 < 40000) ∧
 Q (σ10 28 (r9.toNat)) σ10) ∧
 (¬ (r9 ≠ (-1)) →
 Q ((-1)) σ10))))) ∧
 (¬ (x5 ≥ 0) →
 Q ((-2)) σ4)))))
def wp_X12_start (σ : St) (Q : Int → St → Prop) : Prop :=
 ((σ 0 1 ≠ 0) →
 Q (σ 1 (Int.toNat 0)) σ) ∧
 (¬ (σ 0 1 ≠ 0) →
 Q ((-1)) σ)
def wp_X12_bounds (x1 : Int) (x2 : Int) (x3 : Int) (σ : St) (Q : Int → St → Prop) : Prop :=
 wp_X12_isPlace x1 σ (fun r1 σ2 =>
 ((r1 = 0) →
 Q ((-2)) σ2) ∧
 (¬ (r1 = 0) →
 ((x2 < 0) →
 Q ((-2)) σ2) ∧
 (¬ (x2 < 0) →
 wp_X12_in x3 0 2 σ2 (fun r3 σ4 =>
 ((r3 ≠ 0) →
 ((σ4 0 15 = 0) →
 Q ((-1)) σ4) ∧
 (¬ (σ4 0 15 = 0) →
 ((σ4 0 1 ≠ 0) →
 wp_X12_laysBest σ4 (fun r5 σ6 =>
 wp_X12_start σ6 (fun r7 σ8 =>
 wp_X12_treeOf r7 0 (σ8 0 15) x1 σ8 (fun r9 σ10 =>
 wp_X12_stepOf r9 x2 σ10 (fun r11 σ12 =>
 ((r11 ≠ (-1)) →
 ((x3 ≠ 0) →
 ((x3 ≠ 1) →
 (0 ≤ r11 ∧ r11 < 40000) ∧
 Q (σ12 31 (r11.toNat)) σ12) ∧
 (¬ (x3 ≠ 1) →
 (0 ≤ r11 ∧ r11 < 40000) ∧
 Q (σ12 30 (r11.toNat)) σ12)) ∧
 (¬ (x3 ≠ 0) →
 (0 ≤ r11 ∧ r11 < 40000) ∧
 Q (σ12 29 (r11.toNat)) σ12)) ∧
 (¬ (r11 ≠ (-1)) →
 Q ((-1)) σ12)))))) ∧
 (¬ (σ4 0 1 ≠ 0) →
 Q ((-1)) σ4))) ∧
 (¬ (r3 ≠ 0) →
 Q ((-2)) σ4)))))
def wp_X12_areAlike_b74 (Q : Int → St → Prop) (σ : St) : Prop :=
 Q 0 σ
def wp_X12_areAlike (x1 : Int) (x2 : Int) (σ : St) (Q : Int → St → Prop) : Prop :=
 ((x1 = (-1)) →
 wp_X12_areAlike_b74 Q σ) ∧
 (¬ (x1 = (-1)) →
 ((x2 = (-1)) →
 wp_X12_areAlike_b74 Q σ) ∧
 (¬ (x2 = (-1)) →
 (0 ≤ x1 ∧ x1 < 40000) ∧
 (0 ≤ x2 ∧ x2 < 40000) ∧
 ((σ 28 (x1.toNat) ≠ σ 28 (x2.toNat)) →
 wp_X12_areAlike_b74 Q σ) ∧
 (¬ (σ 28 (x1.toNat) ≠ σ 28 (x2.toNat)) →
 (0 ≤ x1 ∧ x1 < 40000) ∧
 (0 ≤ x2 ∧ x2 < 40000) ∧
 ((σ 29 (x1.toNat) ≠ σ 29 (x2.toNat)) →
 wp_X12_areAlike_b74 Q σ) ∧
 (¬ (σ 29 (x1.toNat) ≠ σ 29 (x2.toNat)) →
 (0 ≤ x1 ∧ x1 < 40000) ∧
 (0 ≤ x2 ∧ x2 < 40000) ∧
 ((σ 31 (x1.toNat) ≠ σ 31 (x2.toNat)) →
 wp_X12_areAlike_b74 Q σ) ∧
 (¬ (σ 31 (x1.toNat) ≠ σ 31 (x2.toNat)) →
 (0 ≤ x1 ∧ x1 < 40000) ∧
 (0 ≤ x2 ∧ x2 < 40000) ∧
 ((σ 30 (x1.toNat) ≠ σ 30 (x2.toNat)) →
 wp_X12_areAlike_b74 Q σ) ∧
 (¬ (σ 30 (x1.toNat) ≠ σ 30 (x2.toNat)) →
 Q 1 σ))))))
def wp_X12_alike_l72 (Q : Int → St → Prop) : Nat → Int → Int → Int → St → Prop
  | 0, _, _, _, _ => False
  | n + 1, x6, x7, x8, σ =>
    wp_X12_stepOf x6 x8 σ (fun r13 σ14 =>
    wp_X12_stepOf x7 x8 σ14 (fun r15 σ16 =>
    wp_X12_areAlike r13 r15 σ16 (fun r17 σ18 =>
    ((r17 = 0) →
    Q x8 σ18) ∧
    (¬ (r17 = 0) →
    ∀ v19 : Int, v19 = w32 (x8 + 1) →
    (wp_X12_alike_l72 Q n) x6 x7 v19 σ18))))
def wp_X12_alike (x1 : Int) (x2 : Int) (x3 : Int) (x4 : Int) (x5 : Int) (σ : St) (Q : Int → St → Prop) : Prop :=
 wp_X12_isItem x1 x2 x3 σ (fun r1 σ2 =>
 ((r1 = 0) →
 Q ((-2)) σ2) ∧
 (¬ (r1 = 0) →
 wp_X12_isPlace x4 σ2 (fun r3 σ4 =>
 ((r3 = 0) →
 Q ((-2)) σ4) ∧
 (¬ (r3 = 0) →
 wp_X12_isPlace x5 σ4 (fun r5 σ6 =>
 ((r5 ≠ 0) →
 wp_X12_laysBest σ6 (fun r7 σ8 =>
 wp_X12_treeOf x1 x2 x3 x4 σ8 (fun r9 σ10 =>
 wp_X12_treeOf x1 x2 x3 x5 σ10 (fun r11 σ12 =>
 ((r9 = (-1)) →
 Q ((-1)) σ12) ∧
 (¬ (r9 = (-1)) →
 ((r11 ≠ (-1)) →
 wp_X12_alike_l72 Q bigN r9 r11 0 σ12) ∧
 (¬ (r11 ≠ (-1)) →
 Q ((-1)) σ12)))))) ∧
 (¬ (r5 ≠ 0) →
 Q ((-2)) σ6))))))
def wp_X12_puts (x1 : Int) (σ : St) (Q : Int → St → Prop) : Prop :=
 (0 ≤ σ 0 61 ∧ σ 0 61 < 20000) ∧ ∀ σ1 : St, σ1 = upS σ 40 (σ 0 61).toNat (b_byte (b_byte x1)) →
 ∀ σ2 : St, σ2 = upS σ1 0 61 (w32 ((σ1 0 61) + 1)) →
 Q 0 σ2
def wp_X12_tellsPart (M : Int → St → (Int → St → Prop) → Prop) (x1 : Int) (x2 : Int) (σ : St) (Q : Int → St → Prop) : Prop :=
 wp_X12_puts 32 σ (fun r1 σ2 =>
 ((x1 < 100) →
 M x2 σ2 (fun r3 σ4 =>
 Q 0 σ4)) ∧
 (¬ (x1 < 100) →
 wp_X12_puts (w32 ((w32 (97 + x1)) - 100)) σ2 (fun r5 σ6 =>
 Q 0 σ6)))
def wp_X12_tells_b68 (M : Int → St → (Int → St → Prop) → Prop) (Q : Int → St → Prop) (σ : St) : Prop :=
 wp_X12_puts 41 σ (fun r10 σ11 =>
 Q 0 σ11)
def wp_X12_tells : Nat → Int → St → (Int → St → Prop) → Prop
  | 0, _, _, _ => False
  | d + 1, x1, σ, Q =>
    (0 ≤ x1 ∧ x1 < 40000) ∧
    ∀ v1 : Int, v1 = σ 28 (x1.toNat) →
    wp_X12_puts 40 σ (fun r2 σ3 =>
    (0 ≤ v1 ∧ v1 < 80) ∧
    wp_X12_puts (w32 (65 + (σ3 1 (v1.toNat)))) σ3 (fun r4 σ5 =>
    (0 ≤ v1 ∧ v1 < 80) ∧
    (0 ≤ x1 ∧ x1 < 40000) ∧
    wp_X12_tellsPart (wp_X12_tells d) (σ5 2 (v1.toNat)) (σ5 32 (x1.toNat)) σ5 (fun r6 σ7 =>
    (0 ≤ v1 ∧ v1 < 80) ∧
    ((σ7 3 (v1.toNat) = (-1)) →
    wp_X12_tells_b68 (wp_X12_tells d) Q σ7) ∧
    (¬ (σ7 3 (v1.toNat) = (-1)) →
    (0 ≤ v1 ∧ v1 < 80) ∧
    (0 ≤ x1 ∧ x1 < 40000) ∧
    wp_X12_tellsPart (wp_X12_tells d) (σ7 3 (v1.toNat)) (σ7 33 (x1.toNat)) σ7 (fun r8 σ9 =>
    wp_X12_tells_b68 (wp_X12_tells d) Q σ9)))))
def wp_X12_tell (x1 : Int) (x2 : Int) (x3 : Int) (x4 : Int) (σ : St) (Q : Int → St → Prop) : Prop :=
 wp_X12_isItem x1 x2 x3 σ (fun r1 σ2 =>
 ((r1 = 0) →
 Q ((-2)) σ2) ∧
 (¬ (r1 = 0) →
 wp_X12_isPlace x4 σ2 (fun r3 σ4 =>
 ((r3 ≠ 0) →
 wp_X12_laysBest σ4 (fun r5 σ6 =>
 wp_X12_treeOf x1 x2 x3 x4 σ6 (fun r7 σ8 =>
 ((r7 ≠ (-1)) →
 ∀ σ9 : St, σ9 = upS σ8 0 61 0 →
 wp_X12_tells 400 r7 σ9 (fun r10 σ11 =>
 Q (σ11 0 61) σ11)) ∧
 (¬ (r7 ≠ (-1)) →
 Q ((-1)) σ8)))) ∧
 (¬ (r3 ≠ 0) →
 Q ((-2)) σ4))))
def wp_X12_octet (x1 : Int) (σ : St) (Q : Int → St → Prop) : Prop :=
 wp_X12_in x1 0 (w32 ((σ 0 61) - 1)) σ (fun r1 σ2 =>
 ((r1 = 0) →
 Q ((-1)) σ2) ∧
 (¬ (r1 = 0) →
 (0 ≤ x1 ∧ x1 < 20000) ∧
 Q (σ2 40 (x1.toNat)) σ2))
def wp_X12_cheapPart_b25 (Q : Int → St → Prop) (σ : St) : Prop :=
 Q 0 σ
def wp_X12_cheapPart (x1 : Int) (x2 : Int) (x3 : Int) (x4 : Int) (σ : St) (Q : Int → St → Prop) : Prop :=
 ((x1 < 100) →
 ((x4 ≥ 1) →
 wp_X12_item x1 x2 x3 σ (fun r1 σ2 =>
 (0 ≤ w32 ((w32 (r1 * 301)) + x4) ∧ w32 ((w32 (r1 * 301)) + x4) < 231168) ∧
 Q (σ2 41 ((w32 ((w32 (r1 * 301)) + x4)).toNat)) σ2)) ∧
 (¬ (x4 ≥ 1) →
 Q 0 σ)) ∧
 (¬ (x1 < 100) →
 ((x4 ≠ 0) →
 wp_X12_cheapPart_b25 Q σ) ∧
 (¬ (x4 ≠ 0) →
 wp_X12_fits x1 x2 x3 σ (fun r3 σ4 =>
 ((r3 = 0) →
 wp_X12_cheapPart_b25 Q σ4) ∧
 (¬ (r3 = 0) →
 Q 1 σ4))))
def wp_X12_cheapTwos_b147 (Q : Int → St → Prop) (K8 : Int → Int → Int → Int → Int → Int → St → Prop) (K86 : Int → Int → Int → Int → Int → Int → Int → Int → St → Prop) (x1 : Int) (x2 : Int) (x3 : Int) (x4 : Int) (x5 : Int) (x7 : Int) (x9 : Int) (x10 : Int) (σ : St) : Prop :=
 ∀ v20 : Int, v20 = w32 (x10 + 1) →
 K86 x1 x2 x3 x4 x5 x7 x9 v20 σ
def wp_X12_cheapTwos_b153 (Q : Int → St → Prop) (K8 : Int → Int → Int → Int → Int → Int → St → Prop) (x1 : Int) (x2 : Int) (x3 : Int) (x4 : Int) (x5 : Int) (x7 : Int) (σ : St) : Prop :=
 ∀ v11 : Int, v11 = w32 (x7 + 1) →
 K8 x1 x2 x3 x4 x5 v11 σ
def wp_X12_cheapTwos_l86 (Q : Int → St → Prop) (K8 : Int → Int → Int → Int → Int → Int → St → Prop) : Nat → Int → Int → Int → Int → Int → Int → Int → Int → St → Prop
  | 0, _, _, _, _, _, _, _, _, _ => False
  | n + 1, x1, x2, x3, x4, x5, x7, x9, x10, σ =>
    ((x10 > x9) →
    wp_X12_cheapTwos_b153 Q K8 x1 x2 x3 x4 x5 x7 σ) ∧
    (¬ (x10 > x9) →
    (0 ≤ x1 ∧ x1 < 80) ∧
    wp_X12_cheapPart (σ 2 (x1.toNat)) x2 x7 x10 σ (fun r12 σ13 =>
    ((r12 ≤ 0) →
    wp_X12_cheapTwos_b147 Q K8 (wp_X12_cheapTwos_l86 Q K8 n) x1 x2 x3 x4 x5 x7 x9 x10 σ13) ∧
    (¬ (r12 ≤ 0) →
    (0 ≤ x1 ∧ x1 < 80) ∧
    wp_X12_cheapPart (σ13 3 (x1.toNat)) x7 x3 (w32 (x4 - x10)) σ13 (fun r14 σ15 =>
    wp_X12_timesGreat r12 r14 σ15 (fun r16 σ17 =>
    wp_X12_plusGreat x5 r16 σ17 (fun r18 σ19 =>
    wp_X12_cheapTwos_b147 Q K8 (wp_X12_cheapTwos_l86 Q K8 n) x1 x2 x3 x4 r18 x7 x9 x10 σ19))))))
def wp_X12_cheapTwos_l8 (Q : Int → St → Prop) : Nat → Int → Int → Int → Int → Int → Int → St → Prop
  | 0, _, _, _, _, _, _, _ => False
  | n + 1, x1, x2, x3, x4, x5, x7, σ =>
    ((x7 ≥ x3) →
    Q x5 σ) ∧
    (¬ (x7 ≥ x3) →
    (0 ≤ x1 ∧ x1 < 80) ∧
    wp_X12_fits (σ 2 (x1.toNat)) x2 x7 σ (fun r2 σ3 =>
    ((r2 = 0) →
    wp_X12_cheapTwos_b153 Q (wp_X12_cheapTwos_l8 Q n) x1 x2 x3 x4 x5 x7 σ3) ∧
    (¬ (r2 = 0) →
    (0 ≤ x1 ∧ x1 < 80) ∧
    wp_X12_fits (σ3 3 (x1.toNat)) x7 x3 σ3 (fun r4 σ5 =>
    ((r4 ≠ 0) →
    (0 ≤ x1 ∧ x1 < 80) ∧
    wp_X12_leastPart (σ5 2 (x1.toNat)) x2 x7 σ5 (fun r6 σ7 =>
    (0 ≤ x1 ∧ x1 < 80) ∧
    wp_X12_leastPart (σ7 3 (x1.toNat)) x7 x3 σ7 (fun r8 σ9 =>
    ∀ v10 : Int, v10 = w32 (x4 - r8) →
    wp_X12_cheapTwos_l86 Q (wp_X12_cheapTwos_l8 Q n) bigN x1 x2 x3 x4 x5 x7 v10 r6 σ9))) ∧
    (¬ (r4 ≠ 0) →
    wp_X12_cheapTwos_b153 Q (wp_X12_cheapTwos_l8 Q n) x1 x2 x3 x4 x5 x7 σ5)))))
def wp_X12_cheapTwos (x1 : Int) (x2 : Int) (x3 : Int) (x4 : Int) (σ : St) (Q : Int → St → Prop) : Prop :=
 ∀ v1 : Int, v1 = w32 (x2 + 1) →
 wp_X12_cheapTwos_l8 Q bigN x1 x2 x3 x4 0 v1 σ
def wp_X12_laysCheap_b178 (Q : Int → St → Prop) (K3 : Int → Int → Int → Int → St → Prop) (K48 : Int → Int → Int → Int → Int → St → Prop) (x1 : Int) (x2 : Int) (x3 : Int) (x4 : Int) (x5 : Int) (σ : St) : Prop :=
 ∀ v15 : Int, v15 = w32 (x5 + 1) →
 K48 x1 x2 x3 x4 v15 σ
def wp_X12_laysCheap_b157 (Q : Int → St → Prop) (K3 : Int → Int → Int → Int → St → Prop) (K48 : Int → Int → Int → Int → Int → St → Prop) (x1 : Int) (x2 : Int) (x3 : Int) (x4 : Int) (x5 : Int) (x6 : Int) (s0 : Int) (σ : St) : Prop :=
 (0 ≤ x6 ∧ x6 < 231168) ∧
 wp_X12_plusGreat (σ 41 (x6.toNat)) s0 σ (fun r16 σ17 =>
 (0 ≤ x6 ∧ x6 < 231168) ∧ ∀ σ18 : St, σ18 = upS σ17 41 x6.toNat r16 →
 wp_X12_laysCheap_b178 Q K3 K48 x1 x2 x3 x4 x5 σ18)
def wp_X12_laysCheap_l48 (Q : Int → St → Prop) (K3 : Int → Int → Int → Int → St → Prop) : Nat → Int → Int → Int → Int → Int → St → Prop
  | 0, _, _, _, _, _, _ => False
  | n + 1, x1, x2, x3, x4, x5, σ =>
    ((x5 ≥ σ 0 1) →
    ∀ v5 : Int, v5 = w32 (x4 + 1) →
    K3 x1 x2 x3 v5 σ) ∧
    (¬ (x5 ≥ σ 0 1) →
    wp_X12_isIn x5 σ (fun r6 σ7 =>
    ((r6 = 0) →
    wp_X12_laysCheap_b178 Q K3 (wp_X12_laysCheap_l48 Q K3 n) x1 x2 x3 x4 x5 σ7) ∧
    (¬ (r6 = 0) →
    (0 ≤ x5 ∧ x5 < 80) ∧
    ((x4 ≥ σ7 4 (x5.toNat)) →
    (0 ≤ x5 ∧ x5 < 80) ∧
    wp_X12_item (σ7 1 (x5.toNat)) x1 x2 σ7 (fun r8 σ9 =>
    ∀ v10 : Int, v10 = w32 ((w32 (r8 * 301)) + x4) →
    (0 ≤ x5 ∧ x5 < 80) ∧
    ((σ9 3 (x5.toNat) ≠ (-1)) →
    (0 ≤ x5 ∧ x5 < 80) ∧
    wp_X12_cheapTwos x5 x1 x2 (w32 (x4 - (σ9 4 (x5.toNat)))) σ9 (fun r11 σ12 =>
    wp_X12_laysCheap_b157 Q K3 (wp_X12_laysCheap_l48 Q K3 n) x1 x2 x3 x4 x5 v10 r11 σ12)) ∧
    (¬ (σ9 3 (x5.toNat) ≠ (-1)) →
    (0 ≤ x5 ∧ x5 < 80) ∧
    (0 ≤ x5 ∧ x5 < 80) ∧
    wp_X12_cheapPart (σ9 2 (x5.toNat)) x1 x2 (w32 (x4 - (σ9 4 (x5.toNat)))) σ9 (fun r13 σ14 =>
    wp_X12_laysCheap_b157 Q K3 (wp_X12_laysCheap_l48 Q K3 n) x1 x2 x3 x4 x5 v10 r13 σ14)))) ∧
    (¬ (x4 ≥ σ7 4 (x5.toNat)) →
    wp_X12_laysCheap_b178 Q K3 (wp_X12_laysCheap_l48 Q K3 n) x1 x2 x3 x4 x5 σ7))))
def wp_X12_laysCheap_l12 (Q : Int → St → Prop) (K3 : Int → Int → Int → Int → St → Prop) : Nat → Int → Int → Int → Int → Int → St → Prop
  | 0, _, _, _, _, _, _ => False
  | n + 1, x1, x2, x3, x4, x5, σ =>
    ((x5 ≥ 12) →
    wp_X12_laysCheap_l48 Q K3 bigN x1 x2 x3 x4 0 σ) ∧
    (¬ (x5 ≥ 12) →
    wp_X12_item x5 x1 x2 σ (fun r1 σ2 =>
    (0 ≤ w32 ((w32 (r1 * 301)) + x4) ∧ w32 ((w32 (r1 * 301)) + x4) < 231168) ∧ ∀ σ3 : St, σ3 = upS σ2 41 (w32 ((w32 (r1 * 301)) + x4)).toNat 0 →
    ∀ v4 : Int, v4 = w32 (x5 + 1) →
    (wp_X12_laysCheap_l12 Q K3 n) x1 x2 x3 x4 v4 σ3))
def wp_X12_laysCheap_l3 (Q : Int → St → Prop) : Nat → Int → Int → Int → Int → St → Prop
  | 0, _, _, _, _, _ => False
  | n + 1, x1, x2, x3, x4, σ =>
    ((x4 > x3) →
    Q 0 σ) ∧
    (¬ (x4 > x3) →
    wp_X12_laysCheap_l12 Q (wp_X12_laysCheap_l3 Q n) bigN x1 x2 x3 x4 0 σ)
def wp_X12_laysCheap (x1 : Int) (x2 : Int) (x3 : Int) (σ : St) (Q : Int → St → Prop) : Prop :=
 wp_X12_laysCheap_l3 Q bigN x1 x2 x3 1 σ
def wp_X12_cheap_l46 (Q : Int → St → Prop) (K34 : Int → Int → Int → Int → Int → St → Prop) : Nat → Int → Int → Int → Int → Int → Int → St → Prop
  | 0, _, _, _, _, _, _, _ => False
  | n + 1, x1, x2, x3, x4, x5, x6, σ =>
    ((w32 (x6 + x5) > σ 0 27) →
    ∀ v12 : Int, v12 = w32 (x5 + 1) →
    K34 x1 x2 x3 x4 v12 σ) ∧
    (¬ (w32 (x6 + x5) > σ 0 27) →
    wp_X12_laysCheap x6 (w32 (x6 + x5)) x4 σ (fun r13 σ14 =>
    ∀ v15 : Int, v15 = w32 (x6 + 1) →
    (wp_X12_cheap_l46 Q K34 n) x1 x2 x3 x4 x5 v15 σ14))
def wp_X12_cheap_l89 (Q : Int → St → Prop) : Nat → Int → Int → Int → Int → Int → Int → St → Prop
  | 0, _, _, _, _, _, _, _ => False
  | n + 1, x1, x2, x3, x4, x5, x7, σ =>
    ((x7 > x4) →
    ((x5 ≤ 1000000000000000) →
    Q x5 σ) ∧
    (¬ (x5 ≤ 1000000000000000) →
    Q ((-3)) σ)) ∧
    (¬ (x7 > x4) →
    wp_X12_cheapPart x1 x2 x3 x7 σ (fun r7 σ8 =>
    wp_X12_plusGreat x5 r7 σ8 (fun r9 σ10 =>
    ∀ v11 : Int, v11 = w32 (x7 + 1) →
    (wp_X12_cheap_l89 Q n) x1 x2 x3 x4 r9 v11 σ10)))
def wp_X12_cheap_l34 (Q : Int → St → Prop) : Nat → Int → Int → Int → Int → Int → St → Prop
  | 0, _, _, _, _, _, _ => False
  | n + 1, x1, x2, x3, x4, x5, σ =>
    ((x5 > σ 0 27) →
    wp_X12_cheap_l89 Q bigN x1 x2 x3 x4 0 1 σ) ∧
    (¬ (x5 > σ 0 27) →
    wp_X12_cheap_l46 Q (wp_X12_cheap_l34 Q n) bigN x1 x2 x3 x4 x5 0 σ)
def wp_X12_cheap (x1 : Int) (x2 : Int) (x3 : Int) (x4 : Int) (σ : St) (Q : Int → St → Prop) : Prop :=
 wp_X12_isItem x1 x2 x3 σ (fun r1 σ2 =>
 ((r1 = 0) →
 Q ((-2)) σ2) ∧
 (¬ (r1 = 0) →
 wp_X12_in x4 0 300 σ2 (fun r3 σ4 =>
 ((r3 ≠ 0) →
 wp_X12_looks σ4 (fun r5 σ6 =>
 wp_X12_cheap_l34 Q bigN x1 x2 x3 x4 1 σ6)) ∧
 (¬ (r3 ≠ 0) →
 Q ((-2)) σ4))))
def wp_X12_leastOfAll_b30 (Q : Int → St → Prop) (σ : St) : Prop :=
 Q ((-1)) σ
def wp_X12_leastOfAll (σ : St) (Q : Int → St → Prop) : Prop :=
 ((σ 0 27 = 0) →
 wp_X12_leastOfAll_b30 Q σ) ∧
 (¬ (σ 0 27 = 0) →
 ((σ 0 1 = 0) →
 wp_X12_leastOfAll_b30 Q σ) ∧
 (¬ (σ 0 1 = 0) →
 wp_X12_start σ (fun r1 σ2 =>
 wp_X12_has r1 0 (σ2 0 27) σ2 (fun r3 σ4 =>
 ((r3 ≠ 0) →
 wp_X12_start σ4 (fun r5 σ6 =>
 wp_X12_item r5 0 (σ6 0 27) σ6 (fun r7 σ8 =>
 (0 ≤ r7 ∧ r7 < 768) ∧
 Q (σ8 15 (r7.toNat)) σ8))) ∧
 (¬ (r3 ≠ 0) →
 wp_X12_leastOfAll_b30 Q σ4)))))
def wp_X12_without (x1 : Int) (σ : St) (Q : Int → St → Prop) : Prop :=
 wp_X12_isRule x1 σ (fun r1 σ2 =>
 ((r1 ≠ 0) →
 wp_X12_looks σ2 (fun r3 σ4 =>
 wp_X12_laysLeast (l_or (σ4 0 2) (l_shl 1 x1)) σ4 (fun r5 σ6 =>
 wp_X12_leastOfAll σ6 (fun r7 σ8 =>
 Q r7 σ8)))) ∧
 (¬ (r1 ≠ 0) →
 Q ((-2)) σ2))
def wp_X12_heads_b44 (Q : Int → St → Prop) (K8 : Int → Int → St → Prop) (x2 : Int) (s0 : Int) (s1 : Int) (σ : St) : Prop :=
 ∀ v7 : Int, v7 = b_or s1 s0 →
 ∀ v8 : Int, v8 = w32 (x2 + 1) →
 K8 v7 v8 σ
def wp_X12_heads_l8 (Q : Int → St → Prop) : Nat → Int → Int → St → Prop
  | 0, _, _, _ => False
  | n + 1, x1, x2, σ =>
    ((x2 > σ 0 27) →
    Q x1 σ) ∧
    (¬ (x2 > σ 0 27) →
    ((σ 0 1 ≤ 0) →
    Q x1 σ) ∧
    (¬ (σ 0 1 ≤ 0) →
    wp_X12_start σ (fun r3 σ4 =>
    wp_X12_has r3 0 x2 σ4 (fun r5 σ6 =>
    ((r5 = 0) →
    wp_X12_heads_b44 Q (wp_X12_heads_l8 Q n) x2 0 x1 σ6) ∧
    (¬ (r5 = 0) →
    wp_X12_heads_b44 Q (wp_X12_heads_l8 Q n) x2 (b_shl 1 x2) x1 σ6)))))
def wp_X12_heads (σ : St) (Q : Int → St → Prop) : Prop :=
 wp_X12_looks σ (fun r1 σ2 =>
 wp_X12_heads_l8 Q bigN 0 1 σ2)
def wp_X12_laysMends_b105 (Q : Int → St → Prop) (K11 : Int → Int → St → Prop) (K21 : Int → Int → Int → St → Prop) (x1 : Int) (x2 : Int) (x3 : Int) (σ : St) : Prop :=
 ∀ v14 : Int, v14 = w32 (x3 + 1) →
 K21 x1 x2 v14 σ
def wp_X12_laysMends_l21 (Q : Int → St → Prop) (K11 : Int → Int → St → Prop) : Nat → Int → Int → Int → St → Prop
  | 0, _, _, _, _ => False
  | n + 1, x1, x2, x3, σ =>
    ((x3 ≥ 26) →
    ∀ v2 : Int, v2 = w32 (x2 + 1) →
    K11 x1 v2 σ) ∧
    (¬ (x3 ≥ 26) →
    wp_X12_looks σ (fun r3 σ4 =>
    (0 ≤ x2 ∧ x2 < 8) ∧
    ((x3 ≠ σ4 11 (x2.toNat)) →
    (0 ≤ x2 ∧ x2 < 8) ∧ ∀ σ5 : St, σ5 = upS σ4 14 x2.toNat x3 →
    wp_X12_laysLeast (σ5 0 2) σ5 (fun r6 σ7 =>
    wp_X12_leastOfAll σ7 (fun r8 σ9 =>
    ((r8 ≠ (-1)) →
    ∀ v10 : Int, v10 = w32 (x1 + 1) →
    ((r8 < σ9 0 65) →
    ∀ σ11 : St, σ11 = upS σ9 0 65 r8 →
    ∀ σ12 : St, σ12 = upS σ11 0 63 x2 →
    ∀ σ13 : St, σ13 = upS σ12 0 64 x3 →
    wp_X12_laysMends_b105 Q K11 (wp_X12_laysMends_l21 Q K11 n) v10 x2 x3 σ13) ∧
    (¬ (r8 < σ9 0 65) →
    wp_X12_laysMends_b105 Q K11 (wp_X12_laysMends_l21 Q K11 n) v10 x2 x3 σ9)) ∧
    (¬ (r8 ≠ (-1)) →
    wp_X12_laysMends_b105 Q K11 (wp_X12_laysMends_l21 Q K11 n) x1 x2 x3 σ9)))) ∧
    (¬ (x3 ≠ σ4 11 (x2.toNat)) →
    wp_X12_laysMends_b105 Q K11 (wp_X12_laysMends_l21 Q K11 n) x1 x2 x3 σ4)))
def wp_X12_laysMends_l11 (Q : Int → St → Prop) : Nat → Int → Int → St → Prop
  | 0, _, _, _ => False
  | n + 1, x1, x2, σ =>
    ((x2 ≥ σ 0 15) →
    Q x1 σ) ∧
    (¬ (x2 ≥ σ 0 15) →
    wp_X12_laysMends_l21 Q (wp_X12_laysMends_l11 Q n) bigN x1 x2 0 σ)
def wp_X12_laysMends (σ : St) (Q : Int → St → Prop) : Prop :=
 ∀ σ1 : St, σ1 = upS σ 0 65 1000000000 →
 wp_X12_laysMends_l11 Q bigN 0 0 σ1
def wp_X12_mends (σ : St) (Q : Int → St → Prop) : Prop :=
 wp_X12_laysMends σ (fun r1 σ2 =>
 Q r1 σ2)
def wp_X12_mend (x1 : Int) (σ : St) (Q : Int → St → Prop) : Prop :=
 wp_X12_in x1 0 2 σ (fun r1 σ2 =>
 ((r1 ≠ 0) →
 wp_X12_laysMends σ2 (fun r3 σ4 =>
 ((r3 ≠ 0) →
 ((x1 ≠ 0) →
 ((x1 ≠ 1) →
 Q (σ4 0 65) σ4) ∧
 (¬ (x1 ≠ 1) →
 Q (σ4 0 64) σ4)) ∧
 (¬ (x1 ≠ 0) →
 Q (σ4 0 63) σ4)) ∧
 (¬ (r3 ≠ 0) →
 Q ((-1)) σ4))) ∧
 (¬ (r1 ≠ 0) →
 Q ((-2)) σ2))
def wp_X12_rings (σ : St) (Q : Int → St → Prop) : Prop :=
 ∀ σ1 : St, σ1 = upS σ 0 28 (σ 0 2) →
 wp_X12_ringsAt ((-1)) ((-1)) σ1 (fun r2 σ3 =>
 Q r2 σ3)
def wp_X12_isOf_b20 (Q : Int → St → Prop) (σ : St) : Prop :=
 Q 1 σ
def wp_X12_isOf (x0 : Int) (x1 : Int) (σ : St) (Q : Int → St → Prop) : Prop :=
 ((x0 = (-1)) →
 wp_X12_isOf_b20 Q σ) ∧
 (¬ (x0 = (-1)) →
 ((x0 ≥ 100) →
 wp_X12_isOf_b20 Q σ) ∧
 (¬ (x0 ≥ 100) →
 ((b_and (b_shr x1 x0) 1 ≠ 1) →
 Q 0 σ) ∧
 (¬ (b_and (b_shr x1 x0) 1 ≠ 1) →
 wp_X12_isOf_b20 Q σ)))
def wp_X12_alive_b82 (Q : Int → St → Prop) (K21 : Int → Int → St → Prop) (K29 : Int → Int → Int → St → Prop) (x1 : Int) (x2 : Int) (x3 : Int) (σ : St) : Prop :=
 ∀ v23 : Int, v23 = w32 (x3 + 1) →
 K29 x1 x2 v23 σ
def wp_X12_alive_l29 (Q : Int → St → Prop) (K21 : Int → Int → St → Prop) : Nat → Int → Int → Int → St → Prop
  | 0, _, _, _, _ => False
  | n + 1, x1, x2, x3, σ =>
    ((x3 ≥ σ 0 1) →
    ∀ v5 : Int, v5 = w32 (x2 + 1) →
    K21 x1 v5 σ) ∧
    (¬ (x3 ≥ σ 0 1) →
    wp_X12_isIn x3 σ (fun r6 σ7 =>
    ((r6 = 0) →
    wp_X12_alive_b82 Q K21 (wp_X12_alive_l29 Q K21 n) x1 x2 x3 σ7) ∧
    (¬ (r6 = 0) →
    (0 ≤ x3 ∧ x3 < 80) ∧
    wp_X12_isOf (σ7 2 (x3.toNat)) x1 σ7 (fun r8 σ9 =>
    ((r8 = 0) →
    wp_X12_alive_b82 Q K21 (wp_X12_alive_l29 Q K21 n) x1 x2 x3 σ9) ∧
    (¬ (r8 = 0) →
    (0 ≤ x3 ∧ x3 < 80) ∧
    wp_X12_isOf (σ9 3 (x3.toNat)) x1 σ9 (fun r10 σ11 =>
    ((r10 = 0) →
    wp_X12_alive_b82 Q K21 (wp_X12_alive_l29 Q K21 n) x1 x2 x3 σ11) ∧
    (¬ (r10 = 0) →
    (0 ≤ x3 ∧ x3 < 80) ∧
    ∀ v12 : Int, v12 = b_or x1 (b_shl 1 (σ11 1 (x3.toNat))) →
    wp_X12_alive_b82 Q K21 (wp_X12_alive_l29 Q K21 n) v12 x2 x3 σ11)))))))
def wp_X12_alive_b255 (Q : Int → St → Prop) (K108 : Int → Int → Int → Int → St → Prop) (K118 : Int → Int → Int → Int → Int → St → Prop) (x1 : Int) (x2 : Int) (x3 : Int) (x5 : Int) (x6 : Int) (σ : St) : Prop :=
 ∀ v24 : Int, v24 = w32 (x6 + 1) →
 K118 x1 x2 x3 x5 v24 σ
def wp_X12_alive_b253 (Q : Int → St → Prop) (K108 : Int → Int → Int → Int → St → Prop) (K118 : Int → Int → Int → Int → Int → St → Prop) (x1 : Int) (x3 : Int) (x5 : Int) (x6 : Int) (s0 : Int) (s1 : Int) (σ : St) : Prop :=
 ∀ v26 : Int, v26 = b_or s1 s0 →
 wp_X12_alive_b255 Q K108 K118 x1 v26 x3 x5 x6 σ
def wp_X12_alive_b252 (Q : Int → St → Prop) (K108 : Int → Int → Int → Int → St → Prop) (K118 : Int → Int → Int → Int → Int → St → Prop) (x1 : Int) (x3 : Int) (x5 : Int) (x6 : Int) (s0 : Int) (σ : St) : Prop :=
 wp_X12_alive_b253 Q K108 K118 x1 x3 x5 x6 0 s0 σ
def wp_X12_alive_b214 (Q : Int → St → Prop) (K108 : Int → Int → Int → Int → St → Prop) (K118 : Int → Int → Int → Int → Int → St → Prop) (x1 : Int) (x3 : Int) (x5 : Int) (x6 : Int) (s0 : Int) (s1 : Int) (σ : St) : Prop :=
 ∀ v25 : Int, v25 = b_or s1 s0 →
 (0 ≤ x6 ∧ x6 < 80) ∧
 ((σ 3 (x6.toNat) = (-1)) →
 wp_X12_alive_b252 Q K108 K118 x1 x3 x5 x6 v25 σ) ∧
 (¬ (σ 3 (x6.toNat) = (-1)) →
 (0 ≤ x6 ∧ x6 < 80) ∧
 ((σ 3 (x6.toNat) ≥ 100) →
 wp_X12_alive_b252 Q K108 K118 x1 x3 x5 x6 v25 σ) ∧
 (¬ (σ 3 (x6.toNat) ≥ 100) →
 (0 ≤ x6 ∧ x6 < 80) ∧
 wp_X12_alive_b253 Q K108 K118 x1 x3 x5 x6 (b_shl 1 (σ 3 (x6.toNat))) v25 σ))
def wp_X12_alive_l118 (Q : Int → St → Prop) (K108 : Int → Int → Int → Int → St → Prop) : Nat → Int → Int → Int → Int → Int → St → Prop
  | 0, _, _, _, _, _, _ => False
  | n + 1, x1, x2, x3, x5, x6, σ =>
    ((x6 ≥ σ 0 1) →
    ∀ v13 : Int, v13 = w32 (x5 + 1) →
    K108 x1 x2 x3 v13 σ) ∧
    (¬ (x6 ≥ σ 0 1) →
    wp_X12_isIn x6 σ (fun r14 σ15 =>
    ((r14 = 0) →
    wp_X12_alive_b255 Q K108 (wp_X12_alive_l118 Q K108 n) x1 x2 x3 x5 x6 σ15) ∧
    (¬ (r14 = 0) →
    (0 ≤ x6 ∧ x6 < 80) ∧
    wp_X12_isOf (σ15 1 (x6.toNat)) x2 σ15 (fun r16 σ17 =>
    ((r16 = 0) →
    wp_X12_alive_b255 Q K108 (wp_X12_alive_l118 Q K108 n) x1 x2 x3 x5 x6 σ17) ∧
    (¬ (r16 = 0) →
    (0 ≤ x6 ∧ x6 < 80) ∧
    wp_X12_isOf (σ17 2 (x6.toNat)) x1 σ17 (fun r18 σ19 =>
    ((r18 = 0) →
    wp_X12_alive_b255 Q K108 (wp_X12_alive_l118 Q K108 n) x1 x2 x3 x5 x6 σ19) ∧
    (¬ (r18 = 0) →
    (0 ≤ x6 ∧ x6 < 80) ∧
    wp_X12_isOf (σ19 3 (x6.toNat)) x1 σ19 (fun r20 σ21 =>
    ((r20 ≠ 0) →
    ∀ v22 : Int, v22 = l_or x3 (l_shl 1 x6) →
    (0 ≤ x6 ∧ x6 < 80) ∧
    ((σ21 2 (x6.toNat) ≥ 100) →
    wp_X12_alive_b214 Q K108 (wp_X12_alive_l118 Q K108 n) x1 v22 x5 x6 0 x2 σ21) ∧
    (¬ (σ21 2 (x6.toNat) ≥ 100) →
    (0 ≤ x6 ∧ x6 < 80) ∧
    wp_X12_alive_b214 Q K108 (wp_X12_alive_l118 Q K108 n) x1 v22 x5 x6 (b_shl 1 (σ21 2 (x6.toNat))) x2 σ21)) ∧
    (¬ (r20 ≠ 0) →
    wp_X12_alive_b255 Q K108 (wp_X12_alive_l118 Q K108 n) x1 x2 x3 x5 x6 σ21)))))))))
def wp_X12_alive_l108 (Q : Int → St → Prop) : Nat → Int → Int → Int → Int → St → Prop
  | 0, _, _, _, _, _ => False
  | n + 1, x1, x2, x3, x5, σ =>
    ((x5 > 12) →
    Q x3 σ) ∧
    (¬ (x5 > 12) →
    wp_X12_alive_l118 Q (wp_X12_alive_l108 Q n) bigN x1 x2 x3 x5 0 σ)
def wp_X12_alive_l21 (Q : Int → St → Prop) : Nat → Int → Int → St → Prop
  | 0, _, _, _ => False
  | n + 1, x1, x2, σ =>
    ((x2 > 12) →
    wp_X12_start σ (fun r2 σ3 =>
    ∀ v4 : Int, v4 = b_and x1 (b_shl 1 r2) →
    wp_X12_alive_l108 Q bigN x1 v4 0 0 σ3)) ∧
    (¬ (x2 > 12) →
    wp_X12_alive_l29 Q (wp_X12_alive_l21 Q n) bigN x1 x2 0 σ)
def wp_X12_alive (σ : St) (Q : Int → St → Prop) : Prop :=
 ((σ 0 1 ≠ 0) →
 ∀ σ1 : St, σ1 = upS σ 0 28 (σ 0 2) →
 wp_X12_alive_l21 Q bigN 0 0 σ1) ∧
 (¬ (σ 0 1 ≠ 0) →
 Q 0 σ)
def wp_J13_bitCount_95d88_R (x0 : Int) (σ : St) (Q : Int → St → Prop) : Prop :=
 ∀ v1 : Int, v1 = w64 (x0 - (l_and (l_ushr x0 1) 6148914691236517205)) →
 ∀ v2 : Int, v2 = w64 ((l_and v1 3689348814741910323) + (l_and (l_ushr v1 2) 3689348814741910323)) →
 ∀ v3 : Int, v3 = l_and (w64 (v2 + (l_ushr v2 4))) 1085102592571150095 →
 ∀ v4 : Int, v4 = w64 (v3 + (l_ushr v3 8)) →
 ∀ v5 : Int, v5 = w64 (v4 + (l_ushr v4 16)) →
 ∀ v6 : Int, v6 = w64 (v5 + (l_ushr v5 32)) →
 Q (b_and (l_int v6) 127) σ
def wp_X12_count (x1 : Int) (σ : St) (Q : Int → St → Prop) : Prop :=
 (x1 = 0 →
 Q (σ 0 1) σ) ∧
 (x1 = 1 →
 Q (σ 0 15) σ) ∧
 (x1 = 2 →
 wp_X12_start σ (fun r1 σ2 =>
 Q r1 σ2)) ∧
 (x1 = 3 →
 Q (σ 6 (Int.toNat 0)) σ) ∧
 (x1 = 4 →
 Q (σ 7 (Int.toNat 0)) σ) ∧
 (x1 = 5 →
 Q (σ 8 (Int.toNat 0)) σ) ∧
 (x1 = 6 →
 wp_X12_itemsMany σ (fun r3 σ4 =>
 Q r3 σ4)) ∧
 (x1 = 7 →
 Q (σ 0 17) σ) ∧
 (x1 = 8 →
 Q (σ 0 61) σ) ∧
 (x1 = 9 →
 wp_J13_bitCount_95d88_R (σ 0 2) σ (fun r5 σ6 =>
 Q (w32 ((σ 0 1) - r5)) σ6)) ∧
 (¬ x1 = 0 ∧ ¬ x1 = 1 ∧ ¬ x1 = 2 ∧ ¬ x1 = 3 ∧ ¬ x1 = 4 ∧ ¬ x1 = 5 ∧ ¬ x1 = 6 ∧ ¬ x1 = 7 ∧ ¬ x1 = 8 ∧ ¬ x1 = 9 →
 Q ((-1)) σ)
