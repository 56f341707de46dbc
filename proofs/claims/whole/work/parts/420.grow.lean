/-! the least of all labels is taken; turn by turn -/
theorem BTk.sig {ρ σ σ1 : St} {F0 F : Fo} {s a n c : Nat} {L : Nat → En} (e : ∀ k, k ≠ 54 → σ1 k = σ k) : BTk ρ σ1 F0 F s a n L c ↔ BTk ρ σ F0 F s a n L c := by
  unfold BTk BEc
  rw [e 61 (by decide), e 62 (by decide), e 63 (by decide), e 64 (by decide), e 65 (by decide)]
theorem HdP.sig {ρ σ σ1 : St} {F : Fo} {s a n c u : Nat} {L : Nat → En} {f : Int} {z : En} (e : ∀ k, k ≠ 54 → σ1 k = σ k) : HdP ρ σ1 F s a n L c u f z ↔ HdP ρ σ F s a n L c u f z := by
  unfold HdP
  rw [e 67 (by decide)]
def lowC (ρ : St) (D : Nat → Prop) (s : Nat) : Prop := ∀ q, D q → q / 12 ≠ s → ∀ t, t < (cI ρ q).length → (0 ≤ cf ρ q t → (cf ρ q t).toNat / 12 ≠ s) ∧ (0 ≤ cg ρ q t → (cg ρ q t).toNat / 12 ≠ s)
theorem c_takeLeast {ρ σ : St} (hg : Wg ρ) (hL : LL ρ < 9) {F0 F : Fo} {D : Nat → Prop} {s : Nat} {M : Int} (hs : s < spN (LL ρ)) (hW : GRW ρ σ F0 F D s M) (hDc : lowC ρ D s) {x2 : Int} (h2 : P32 x2) (hgo : ∀ a, a < 12 → (tb x2 a = true ↔ Wgo ρ a)) {Q : Int → St → Prop} (hq0 : ∀ σ1, (∀ k, k ≠ 54 → σ1 k = σ k) → (∀ b, b < 12 → Wgo ρ b → F.1 (12 * s + b) < 16 → ∀ w, CandE ρ F (12 * s + b) w → inF F (12 * s + b) w) → Q 0 σ1) (hq1 : ∀ σ1 F1 M1, GRW ρ σ1 F0 F1 D s M1 → smF F1 s = smF F s + 1 → (∀ k, (k < 54 ∨ k = 60 ∨ 67 < k) → σ1 k = σ k) → Q 1 σ1) : wp_X3_takeLeast ((12 * s : Nat) : Int) x2 σ Q := by
  have q3 := sp_3 _ hL
  have hul : (uyL ρ 12).length ≤ 40 := Nat.le_trans (uyL_le 12) (liL_40 hg)
  have lp : ∀ (d b : Nat) (x3 x4 x5 : Int) (σ' : St) (m : Nat), b + d = 12 → d < m → (∀ k, k ≠ 54 → σ' k = σ k) → ((x3 = -1 ∧ x5 = -1 ∧ ∀ e, e < b → Wgo ρ e → F.1 (12 * s + e) < 16 → ∀ w, CandE ρ F (12 * s + e) w → inF F (12 * s + e) w) ∨ (∃ a n L c f z, a < 12 ∧ Wgo ρ a ∧ F.1 (12 * s + a) < 16 ∧ BTk ρ σ F0 F s a n L c ∧ HdP ρ σ F s a n L c (uyL ρ 12).length f z ∧ x3 = (a : Int) ∧ x4 = f ∧ x5 = z.1 ∧ (∀ f2 w, HdP ρ σ F s a n L c (uyL ρ 12).length f2 w → w = z ∨ ltE ρ F (12 * s + a) z w) ∧ ∀ e, e < b → Wgo ρ e → F.1 (12 * s + e) < 16 → ∀ w, CandE ρ F (12 * s + e) w → ¬ inF F (12 * s + e) w → z.1 ≤ w.1)) → wp_X3_takeLeast_l11 Q m ((12 * s : Nat) : Int) x2 x3 x4 x5 (b : Int) σ' := by
    intro d
    induction d with
    | zero =>
      intro b x3 x4 x5 σ' m hd hm hk h
      obtain ⟨m, rfl⟩ := suc_n hm
      unfold wp_X3_takeLeast_l11
      refine ⟨fun _ => ?_, fun h => absurd (by omega) h⟩
      rcases h with ⟨h1, -, h3⟩ | ⟨a, n, L, c, f, z, ha, hWa, h16, hB, hz, e3, e4, e5, hb, hm2⟩
      · exact ⟨fun h => absurd h1 h, fun _ => hq0 σ' hk (fun e he => h3 e (by omega))⟩
      · subst e3 e4 e5
        have hok := hd_ok hW hg hL hs ha hB hz
        have hW' : GRW ρ σ' F0 F D s M := hW.sig hk
        have hG' := hW'.1
        have dq := hW.2.1.2.1 a ha
        have hne : ∀ l, l < F.1 (12 * s + a) → F.2 (12 * s + a) l ≠ z := fun l hl e => hok.2.1 ⟨l, hl, e⟩
        have fin : ∀ (σ1 : St), GSt ρ σ1 (addF F (12 * s + a) z) D → (∀ k, 61 ≤ k → k ≤ 64 → σ1 k = σ k) → σ1 66 = σ 66 → (∀ b, σ1 65 b = if b = a ∧ x4 = -1 then σ 65 b + 1 else σ 65 b) → (∀ u, σ1 67 u = if (u : Int) = x4 then σ 67 u + 1 else σ 67 u) → (∀ k, (k < 54 ∨ k = 60 ∨ 67 < k) → σ1 k = σ k) → Q 1 σ1 := by
          intro σ1 g1 g2 g3 g4 g5 g6
          exact hq1 σ1 _ _ (grw_step hg hL hs hW hDc ha hWa h16 hB hz (fun e he => hm2 e (by omega)) hb g1 g2 g3 g4 g5) (smF_add ha) g6
        have ei : w32 (((12 * s : Nat) : Int) + (a : Int)) = ((12 * s + a : Nat) : Int) := by rw [w32_of (by omega) (by omega)]; omega
        rw [ei]
        refine ⟨fun _ => ⟨fun hf => ?_, fun hf => ?_⟩, fun h => absurd (by omega : (a : Int) ≠ -1) h⟩
        · rcases id hz with ⟨g, -⟩ | ⟨v, hv, g0, g1, g2, t, y, g4, g5, g6, g7⟩
          · exact absurd g hf
          · subst g1
            have ea : 12 * s + (ρ 3 (uyL ρ 12)[v]).toNat = 12 * s + a := by rw [g2]; omega
            obtain ⟨t2, ht2, e66⟩ := hW.2.2.2.2.2.2.2.1 v hv
            have et := uTc_un g4 ht2
            subst et
            rw [ea] at e66
            have y16 : y < 16 := by
              have := hok.2.2.1
              rw [g7] at this; exact this
            have esub : w32 ((y : Int) * 16) = ((16 * z.2.2.1 + z.2.2.2 : Nat) : Int) := by
              rw [w32_of (by omega) (by omega), g7]
              show (y : Int) * 16 = ((16 * y + 0 : Nat) : Int)
              push_cast; omega
            have e1 : (((PL ρ (12 * s + a)).length + t : Nat) : Int) = (((PL ρ (12 * s + a)).length + z.2.1 : Nat) : Int) := by rw [g7]; rfl
            rw [Int.toNat_natCast, hk 66 (by decide), e66, hk 67 (by decide), g5, esub, e1]
            refine ⟨by omega, by omega, c_append hg hL hW.2.1.1 hG' dq h16 hok.1 hne hok.2.2 (fun σ2 f2 hG2 => ⟨by omega, by omega, fun σ3 e3 => ?_⟩)⟩
            rw [f2.1 67 (by decide), hk 67 (by decide), g5, w32_of (by omega) (by omega)] at e3
            refine fin σ3 (hG2.ext (fun k hk2 => by rw [e3, upS_k (by unfold okG at hk2; omega)])) (fun k h1 h3 => by rw [e3, upS_k (by omega), f2.1 k (by omega), hk k (by omega)]) (by rw [e3, upS_k (by decide), f2.1 66 (by decide), hk 66 (by decide)]) (fun b => ?_) (fun u => ?_) (fun k h => by
              rcases h with h | h | h
              · rw [e3, upS_k (by omega), f2.1 k (by omega), hk k (by omega)]
              · rw [h, e3, upS_k (by decide), f2.1 60 (by decide), hk 60 (by decide)]
              · rw [e3, upS_k (by omega), f2.1 k (by omega), hk k (by omega)])
            · rw [if_neg (fun q => hf q.2), e3, upS_k (by decide), f2.1 65 (by decide), hk 65 (by decide)]
            · by_cases e : u = v
              · subst e; rw [if_pos rfl, e3, upS_s, g5]
              · rw [if_neg (by omega), e3, upS_j e, f2.1 67 (by decide), hk 67 (by decide)]
        · have hf1 : x4 = -1 := Classical.byContradiction fun q => hf q
          rcases id hz with ⟨-, g1, g2⟩ | ⟨v, hv, g0, g1, -⟩
          · obtain ⟨b1, b2, b3, b4, b5, b6⟩ := id hB
            obtain ⟨c1, c2, c3, c4⟩ := b3 c g1
            have n16 := b1.1
            unfold wp_X3_takeOfBase
            refine ⟨by omega, fun v1 e1 => ?_⟩
            rw [Int.toNat_natCast, hk 65 (by decide), b4, w32_of (x := (a : Int) * 16) (by omega) (by omega), w32_of (by omega) (by omega), show (a : Int) * 16 + (c : Int) = ((16 * a + c : Nat) : Int) by push_cast; omega] at e1
            subst e1
            rw [Int.toNat_natCast, hk 61 (by decide), hk 62 (by decide), hk 63 (by decide), c1, c2, c3, ← g2]
            refine ⟨by omega, by omega, by omega, c_append hg hL hW.2.1.1 hG' dq h16 hok.1 hne hok.2.2 (fun σ2 f2 hG2 => ⟨by omega, by omega, fun σ3 e3 => ?_⟩)⟩
            rw [Int.toNat_natCast, f2.1 65 (by decide), hk 65 (by decide), b4, w32_of (by omega) (by omega)] at e3
            refine fin σ3 (hG2.ext (fun k hk2 => by rw [e3, upS_k (by unfold okG at hk2; omega)])) (fun k h1 h3 => by rw [e3, upS_k (by omega), f2.1 k (by omega), hk k (by omega)]) (by rw [e3, upS_k (by decide), f2.1 66 (by decide), hk 66 (by decide)]) (fun b => ?_) (fun u => ?_) (fun k h => by
              rcases h with h | h | h
              · rw [e3, upS_k (by omega), f2.1 k (by omega), hk k (by omega)]
              · rw [h, e3, upS_k (by decide), f2.1 60 (by decide), hk 60 (by decide)]
              · rw [e3, upS_k (by omega), f2.1 k (by omega), hk k (by omega)])
            · by_cases e : b = a
              · subst e; rw [if_pos ⟨rfl, hf1⟩, e3, upS_s, b4]
              · rw [if_neg (fun q => e q.1), e3, upS_j e, f2.1 65 (by decide), hk 65 (by decide)]
            · rw [if_neg (by omega), e3, upS_k (by decide), f2.1 67 (by decide), hk 67 (by decide)]
          · omega
    | succ d ih =>
      intro b x3 x4 x5 σ' m hd hm hk h
      obtain ⟨m, rfl⟩ := suc_n hm
      have hb : b < 12 := by omega
      have hW' : GRW ρ σ' F0 F D s M := hW.sig hk
      have eb := b_bit h2 (k := b) (by omega)
      have ei : w32 (((12 * s : Nat) : Int) + (b : Int)) = ((12 * s + b : Nat) : Int) := by rw [w32_of (by omega) (by omega)]; omega
      have e59 : σ' 59 (12 * s + b) = (F.1 (12 * s + b) : Nat) := (hW'.1.2.1 _ (hW.2.1.2.1 b hb)).2.2.1
      unfold wp_X3_takeLeast_l11 wp_X3_takeLeast_b72 wp_X3_takeLeast_b87
      rw [eb, ei, Int.toNat_natCast, e59, w32_of (x := (b : Int) + 1) (by omega) (by omega), show (b : Int) + 1 = ((b + 1 : Nat) : Int) by omega]
      have nx : ∀ (y3 y4 y5 : Int) (σ2 : St), (∀ k, k ≠ 54 → σ2 k = σ k) → ((y3 = -1 ∧ y5 = -1 ∧ ∀ e, e < b + 1 → Wgo ρ e → F.1 (12 * s + e) < 16 → ∀ w, CandE ρ F (12 * s + e) w → inF F (12 * s + e) w) ∨ (∃ a n L c f z, a < 12 ∧ Wgo ρ a ∧ F.1 (12 * s + a) < 16 ∧ BTk ρ σ F0 F s a n L c ∧ HdP ρ σ F s a n L c (uyL ρ 12).length f z ∧ y3 = (a : Int) ∧ y4 = f ∧ y5 = z.1 ∧ (∀ f2 w, HdP ρ σ F s a n L c (uyL ρ 12).length f2 w → w = z ∨ ltE ρ F (12 * s + a) z w) ∧ ∀ e, e < b + 1 → Wgo ρ e → F.1 (12 * s + e) < 16 → ∀ w, CandE ρ F (12 * s + e) w → ¬ inF F (12 * s + e) w → z.1 ≤ w.1)) → ∀ v8 : Int, v8 = ((b + 1 : Nat) : Int) → wp_X3_takeLeast_l11 Q m ((12 * s : Nat) : Int) x2 y3 y4 y5 v8 σ2 := by
        intro y3 y4 y5 σ2 hk2 h' v8 e8
        rw [e8]
        exact ih (b + 1) y3 y4 y5 σ2 m (by omega) (by omega) hk2 h'
      have keep : ∀ (σ2 : St), (∀ k, k ≠ 54 → σ2 k = σ k) → (Wgo ρ b → F.1 (12 * s + b) < 16 → (x5 = -1 → ∀ w, CandE ρ F (12 * s + b) w → inF F (12 * s + b) w) ∧ ∀ w, CandE ρ F (12 * s + b) w → ¬ inF F (12 * s + b) w → x5 ≤ w.1) → ∀ v8 : Int, v8 = ((b + 1 : Nat) : Int) → wp_X3_takeLeast_l11 Q m ((12 * s : Nat) : Int) x2 x3 x4 x5 v8 σ2 := by
        intro σ2 hk2 hbb
        refine nx x3 x4 x5 σ2 hk2 ?_
        rcases h with ⟨h1, h5, h3⟩ | ⟨a, n, L, c, f, z, ha, hWa, h16, hB, hz, e3, e4, e5, hb2, hm2⟩
        · refine Or.inl ⟨h1, h5, fun e he hWe he16 w hw => ?_⟩
          by_cases ee : e = b
          · subst ee; exact (hbb hWe he16).1 h5 w hw
          · exact h3 e (by omega) hWe he16 w hw
        · refine Or.inr ⟨a, n, L, c, f, z, ha, hWa, h16, hB, hz, e3, e4, e5, hb2, fun e he hWe he16 w hw hn => ?_⟩
          by_cases ee : e = b
          · subst ee; rw [← e5]; exact (hbb hWe he16).2 w hw hn
          · exact hm2 e (by omega) hWe he16 w hw hn
      refine ⟨fun h => absurd h (by omega), fun _ => ⟨fun hbit => keep σ' hk (fun hw => ?_), fun hbit => ⟨by omega, fun hge => keep σ' hk (fun _ h16 => by omega), fun hlt => ?_⟩⟩⟩
      · rw [if_pos ((hgo b hb).2 hw)] at hbit; exact absurd rfl hbit
      · have hWb : Wgo ρ b := by
          refine (hgo b hb).1 (Classical.byContradiction fun hh => hbit ?_)
          rw [if_neg hh]; decide
        have h16 : F.1 (12 * s + b) < 16 := by omega
        obtain ⟨n, L, c, hB⟩ := hW.2.2.2.2.2.2.2.2.2 b hb hWb
        refine c_findHead hg hL hs hW' hb ((BTk.sig hk).2 hB) (fun σ7 hk7 hres => ?_)
        have hk7' : ∀ k, k ≠ 54 → σ7 k = σ k := fun k hh => (hk7 k hh).trans (hk k hh)
        rcases hres with ⟨r1, r2⟩ | ⟨f, z, r1, r2, r3, r4⟩
        · refine ⟨fun _ => keep σ7 hk7' (fun _ _ => ⟨fun _ w hw => Classical.byContradiction fun hn => ?_, fun w hw hn => ?_⟩), fun h => absurd r1 h⟩
          · obtain ⟨f2, z2, g, -⟩ := hd_all hW hg hL hs hb h16 hB hw hn
            exact r2 f2 z2 ((HdP.sig hk).2 g)
          · obtain ⟨f2, z2, g, -⟩ := hd_all hW hg hL hs hb h16 hB hw hn
            exact absurd ((HdP.sig hk).2 g) (r2 f2 z2)
        · have hz := (HdP.sig hk).1 r1
          have z1 : 1 ≤ z.1 := (hW.2.1.1.sub (hW.2.1.2.1 b hb) (hd_ok hW hg hL hs hb hB hz).1).1
          have best : ∀ f2 w, HdP ρ σ F s b n L c (uyL ρ 12).length f2 w → w = z ∨ ltE ρ F (12 * s + b) z w := fun f2 w g => r4 f2 w ((HdP.sig hk).2 g)
          have mine : ∀ w, CandE ρ F (12 * s + b) w → ¬ inF F (12 * s + b) w → z.1 ≤ w.1 := by
            intro w hw hn
            obtain ⟨f2, z2, g, g2⟩ := hd_all hW hg hL hs hb h16 hB hw hn
            have l1 : z.1 ≤ z2.1 := by
              rcases best f2 z2 g with e | e
              · rw [e]; exact Int.le_refl _
              · exact e.le
            rcases g2 with e | e
            · rw [e]; exact l1
            · have := e.le; omega
          rw [r2]
          have take : (∀ e, e < b → Wgo ρ e → F.1 (12 * s + e) < 16 → ∀ w, CandE ρ F (12 * s + e) w → ¬ inF F (12 * s + e) w → z.1 ≤ w.1) → ∀ v9 : Int, v9 = σ7 54 17 → ∀ v10 : Int, v10 = z.1 → ∀ v8 : Int, v8 = ((b + 1 : Nat) : Int) → wp_X3_takeLeast_l11 Q m ((12 * s : Nat) : Int) x2 (b : Int) v9 v10 v8 σ7 := by
            intro hm' v9 e9 v10 e10
            refine nx (b : Int) v9 v10 σ7 hk7' (Or.inr ⟨b, n, L, c, f, z, hb, hWb, h16, hB, hz, rfl, by rw [e9]; exact r3, e10, best, fun e he hWe he16 w hw hn => ?_⟩)
            by_cases ee : e = b
            · subst ee; exact mine w hw hn
            · exact hm' e (by omega) hWe he16 w hw hn
          refine ⟨fun h => absurd h (by omega), fun _ => ⟨fun h5 => take ?_, fun h5 => ⟨fun hge => keep σ7 hk7' (fun _ _ => ⟨fun q => absurd q h5, fun w hw hn => ?_⟩), fun hl => take ?_⟩⟩⟩
          · rcases h with ⟨h1, h5', h3⟩ | ⟨a2, n2, L2, c2, f2, z2, ha2, hWa2, h162, hB2, hz2, e3, e4, e5, hb2, hm2⟩
            · intro e he hWe he16 w hw hn
              exact absurd (h3 e he hWe he16 w hw) hn
            · have := (hW.2.1.1.sub (hW.2.1.2.1 a2 ha2) (hd_ok hW hg hL hs ha2 hB2 hz2).1).1
              omega
          · have := mine w hw hn; omega
          · rcases h with ⟨h1, h5', h3⟩ | ⟨a2, n2, L2, c2, f2, z2, ha2, hWa2, h162, hB2, hz2, e3, e4, e5, hb2, hm2⟩
            · exact absurd h5' h5
            · intro e he hWe he16 w hw hn
              have := hm2 e he hWe he16 w hw hn
              omega
  unfold wp_X3_takeLeast
  exact lp 12 0 (-1) (-1) (-1) σ bigN (by omega) (by unfold bigN; omega) (fun _ _ => rfl) (Or.inl ⟨rfl, rfl, fun e he => by omega⟩)
/-- all turns of a span -/
theorem c_turnsF {ρ : St} (hg : Wg ρ) (hL : LL ρ < 9) {F0 : Fo} {D : Nat → Prop} {s : Nat} (hs : s < spN (LL ρ)) (hDc : lowC ρ D s) {x2 : Int} (h2 : P32 x2) (hgo : ∀ a, a < 12 → (tb x2 a = true ↔ Wgo ρ a)) {σ0 : St} {Q : Int → St → Prop} (hq : ∀ σ1 F1, GSt ρ σ1 F1 D → ClF ρ F1 D → LowEq F0 F1 s → (∀ q, D q → SgF ρ F1 q) → (∀ a, a < 12 → TopP (ltE ρ F1 (12 * s + a)) (CandE ρ F1 (12 * s + a)) (F1.1 (12 * s + a)) (F1.2 (12 * s + a))) → (∀ k, (k < 54 ∨ k = 60 ∨ 67 < k) → σ1 k = σ0 k) → Q 0 σ1) : ∀ (d x : Nat) (x4 : Int) (σ : St) (F : Fo) (M : Int) (m : Nat), x + d = 192 → d < m → GRW ρ σ F0 F D s M → x ≤ smF F s → (∀ k, (k < 54 ∨ k = 60 ∨ 67 < k) → σ k = σ0 k) → (x4 = 0 → ∀ b, b < 12 → Wgo ρ b → F.1 (12 * s + b) < 16 → ∀ w, CandE ρ F (12 * s + b) w → inF F (12 * s + b) w) → wp_X3_growSpan_l173 Q m ((12 * s : Nat) : Int) x2 x4 (x : Int) σ := by
  intro d
  have fin : ∀ (σ : St) (F : Fo) (M : Int), GRW ρ σ F0 F D s M → (∀ k, (k < 54 ∨ k = 60 ∨ 67 < k) → σ k = σ0 k) → (∀ b, b < 12 → Wgo ρ b → F.1 (12 * s + b) < 16 → ∀ w, CandE ρ F (12 * s + b) w → inF F (12 * s + b) w) → Q 0 σ := by
    intro σ F M hW hk he
    exact hq σ F hW.1 hW.2.1.1 hW.2.2.2.2.2.2.1 hW.2.2.2.1 (fun a ha => gr_end hW.2.1 he ha) hk
  induction d with
  | zero =>
    intro x x4 σ F M m hd hm hW hx hk hz
    obtain ⟨m, rfl⟩ := suc_n hm
    unfold wp_X3_growSpan_l173
    refine ⟨fun _ => fin σ F M hW hk (fun b hb hWb h16 => ?_), fun h => absurd (by omega) h⟩
    have := sumG_full (f := fun b => F.1 (12 * s + b)) 12 (fun b hb => hW.2.1.2.2.1 b hb) (by unfold smF at hx; omega) b hb
    have : F.1 (12 * s + b) = 16 := this
    omega
  | succ d ih =>
    intro x x4 σ F M m hd hm hW hx hk hz
    obtain ⟨m, rfl⟩ := suc_n hm
    unfold wp_X3_growSpan_l173
    refine ⟨fun h => absurd h (by omega), fun _ => ⟨fun h4 => fin σ F M hW hk (hz h4), fun h4 => ?_⟩⟩
    rw [w32_of (x := (x : Int) + 1) (by omega) (by omega), show (x : Int) + 1 = ((x + 1 : Nat) : Int) by omega]
    refine c_takeLeast hg hL hs hW hDc h2 hgo (fun σ1 k1 he v19 e19 => ?_) (fun σ1 F1 M1 hW1 hs1 k1 v19 e19 => ?_)
    · rw [e19]
      -- none is left: the next turn ends
      obtain ⟨m, rfl⟩ := suc_n (n := m) (d := 0) (by omega)
      unfold wp_X3_growSpan_l173
      have hW1 : GRW ρ σ1 F0 F D s M := hW.sig k1
      have k1' : ∀ k, (k < 54 ∨ k = 60 ∨ 67 < k) → σ1 k = σ0 k := fun k h => by rw [k1 k (by omega)]; exact hk k h
      exact ⟨fun _ => fin σ1 F M hW1 k1' he, fun _ => ⟨fun _ => fin σ1 F M hW1 k1' he, fun h => absurd rfl h⟩⟩
    · rw [e19]
      exact ih (x + 1) 1 σ1 F1 M1 m (by omega) (by omega) hW1 (by omega) (fun k h => by rw [k1 k h]; exact hk k h) (fun h => absurd h (by decide))
