/-! which rows of the common store the findings read -/
def ag0 (ρ ρ' : St) : Prop := ρ' 3 = ρ 3 ∧ ρ' 4 = ρ 4 ∧ ρ' 5 = ρ 5 ∧ ρ' 8 = ρ 8 ∧ ρ' 11 = ρ 11 ∧ ρ' 0 4 = ρ 0 4 ∧ ρ' 0 8 = ρ 0 8
def ag6 (ρ ρ' : St) : Prop := ag0 ρ ρ' ∧ ρ' 6 = ρ 6
def agV (ρ ρ' : St) : Prop := ag0 ρ ρ' ∧ ρ' 7 = ρ 7 ∧ ρ' 9 = ρ 9 ∧ ρ' 10 = ρ 10 ∧ ρ' 0 5 = ρ 0 5 ∧ ρ' 0 6 = ρ 0 6 ∧ ρ' 0 7 = ρ 0 7
theorem g_LL {ρ ρ' : St} (h : ag0 ρ ρ') : LL ρ' = LL ρ := by
  unfold LL
  rw [h.2.2.2.2.2.2]
theorem g_inA {ρ ρ' : St} (h : ag0 ρ ρ') : inA ρ' = inA ρ := by
  funext a k
  unfold inA
  rw [h.1, h.2.2.2.1]
theorem g'_liA {ρ ρ' : St} (h : ag0 ρ ρ') : ∀ a n, liA ρ' a n = liA ρ a n
  | _, 0 => rfl
  | a, n + 1 => by unfold liA; rw [g'_liA h a n, g_inA h]
theorem g_liA {ρ ρ' : St} (h : ag0 ρ ρ') : liA ρ' = liA ρ := funext (fun a => funext (g'_liA h a))
theorem g_pv {ρ ρ' : St} (h : ag0 ρ ρ') : pv ρ' = pv ρ := by
  funext p i j
  unfold pv
  rw [g_LL h, h.2.2.2.2.1]
theorem g'_cB {ρ ρ' : St} (h : ag0 ρ ρ') : ∀ r i j d, cB ρ' r i j d = cB ρ r i j d
  | _, _, _, 0 => rfl
  | r, i, j, d + 1 => by unfold cB; rw [g'_cB h r i j d, g_pv h, h.2.1, h.2.2.1]
theorem g_cB {ρ ρ' : St} (h : ag0 ρ ρ') : cB ρ' = cB ρ := funext (fun r => funext (fun i => funext (fun j => funext (g'_cB h r i j))))
theorem g_cC {ρ ρ' : St} (h : ag0 ρ ρ') : cC ρ' = cC ρ := by
  funext i j r
  unfold cC
  rw [h.2.2.1, h.2.1, g_pv h, g_cB h]
theorem g_cS {ρ ρ' : St} (h : ag0 ρ ρ') : cS ρ' = cS ρ := by
  funext s l
  unfold cS
  rw [g_cC h, g_LL h]
theorem g_cI {ρ ρ' : St} (h : ag0 ρ ρ') : cI ρ' = cI ρ := by
  funext q
  unfold cI
  rw [g_cS h, g_liA h, h.2.2.2.2.2.1]
theorem g'_PL {ρ ρ' : St} (h : ag0 ρ ρ') : ∀ q, PL ρ' q = PL ρ q
  | 0 => rfl
  | q + 1 => by unfold PL; rw [g'_PL h q, g_cI h]
theorem g_PL {ρ ρ' : St} (h : ag0 ρ ρ') : PL ρ' = PL ρ := funext (g'_PL h)
theorem g'_liL {ρ ρ' : St} (h : ag0 ρ ρ') : ∀ a, liL ρ' a = liL ρ a
  | 0 => rfl
  | a + 1 => by unfold liL; rw [g'_liL h a, g_liA h, h.2.2.2.2.2.1]
theorem g_liL {ρ ρ' : St} (h : ag0 ρ ρ') : liL ρ' = liL ρ := funext (g'_liL h)
theorem g_unR {ρ ρ' : St} (h : ag0 ρ ρ') : unR ρ' = unR ρ := by
  funext k
  unfold unR
  rw [h.2.2.1, h.2.1]
theorem g'_uyA {ρ ρ' : St} (h : ag0 ρ ρ') : ∀ a n, uyA ρ' a n = uyA ρ a n
  | _, 0 => rfl
  | a, n + 1 => by unfold uyA; rw [g'_uyA h a n, g_inA h, g_unR h]
theorem g_uyA {ρ ρ' : St} (h : ag0 ρ ρ') : uyA ρ' = uyA ρ := funext (fun a => funext (g'_uyA h a))
theorem g'_uyL {ρ ρ' : St} (h : ag0 ρ ρ') : ∀ a, uyL ρ' a = uyL ρ a
  | 0 => rfl
  | a + 1 => by unfold uyL; rw [g'_uyL h a, g_uyA h, h.2.2.2.2.2.1]
theorem g_uyL {ρ ρ' : St} (h : ag0 ρ ρ') : uyL ρ' = uyL ρ := funext (g'_uyL h)
theorem ag0.sym {ρ ρ' : St} (h : ag0 ρ ρ') : ag0 ρ' ρ := ⟨h.1.symm, h.2.1.symm, h.2.2.1.symm, h.2.2.2.1.symm, h.2.2.2.2.1.symm, h.2.2.2.2.2.1.symm, h.2.2.2.2.2.2.symm⟩
theorem g'_hT {ρ ρ' : St} (h : ag0 ρ ρ') {p i j : Int} (g : hT ρ p i j) : hT ρ' p i j := by
  obtain ⟨c, k, g⟩ := g
  obtain ⟨c', g'⟩ := tp_gen (J' := jA) h.2.2.2.2.2.1 (fun r _ => ⟨by rw [h.1], by rw [h.2.1], by rw [h.2.2.1], by rw [h.2.2.2.1]⟩) (fun j => by rw [h.2.2.2.2.1]) k g
  exact ⟨c', k, g'⟩
theorem g_hT {ρ ρ' : St} (h : ag0 ρ ρ') : hT ρ' = hT ρ := by
  funext p i j
  exact propext ⟨g'_hT h.sym, g'_hT h⟩
theorem g_hPt {ρ ρ' : St} (h : ag0 ρ ρ') : hPt ρ' = hPt ρ := by
  funext x
  unfold hPt
  rw [g_hT h, g_LL h]
theorem g_fullC {ρ ρ' : St} (h : ag0 ρ ρ') : fullC ρ' = fullC ρ := by
  funext c
  unfold fullC
  rw [g_hPt h]
theorem g_nQ {ρ ρ' : St} (h : ag0 ρ ρ') : nQ ρ' = nQ ρ := by
  unfold nQ
  rw [g_hPt h]
theorem g'_FQ {ρ ρ' : St} (h : ag0 ρ ρ') : ∀ k, FQ ρ' k = FQ ρ k
  | 0 => rfl
  | k + 1 => by funext q; unfold FQ; rw [g_cI h, g_fullC h, g'_FQ h k]
theorem g_FQ {ρ ρ' : St} (h : ag0 ρ ρ') : FQ ρ' = FQ ρ := funext (g'_FQ h)
theorem g_FN {ρ ρ' : St} (h : ag0 ρ ρ') : FN ρ' = FN ρ := by
  funext q
  unfold FN
  rw [g_FQ h]
theorem g_wS {ρ ρ' : St} (h : ag0 ρ ρ') : wS ρ' = wS ρ := by
  funext w l
  unfold wS
  rw [g_fullC h]
theorem g'_wq {ρ ρ' : St} (h : ag0 ρ ρ') : ∀ k, wq ρ' k = wq ρ k
  | 0 => rfl
  | k + 1 => by funext q; unfold wq; rw [g_wS h, g'_wq h k, g_cI h]
theorem g_wq {ρ ρ' : St} (h : ag0 ρ ρ') : wq ρ' = wq ρ := funext (g'_wq h)
theorem g_Rt {ρ ρ' : St} (h : ag0 ρ ρ') : Rt ρ' = Rt ρ := by
  funext q v
  unfold Rt
  rw [g_FN h, g_FQ h, g_wq h]
theorem g_TrK {ρ ρ' : St} (h : ag0 ρ ρ') : TrK ρ' = TrK ρ := by
  funext σ
  unfold TrK
  rw [g_LL h, g_Rt h]
theorem g'_UM {ρ ρ' : St} (h : ag0 ρ ρ') : ∀ y k n, UM ρ' y k n = UM ρ y k n
  | _, _, 0 => rfl
  | y, k, n + 1 => by funext q; unfold UM; rw [g_cI h, g_fullC h, g'_UM h y k n]
theorem g_UM {ρ ρ' : St} (h : ag0 ρ ρ') : UM ρ' = UM ρ := funext (fun y => funext (fun k => funext (g'_UM h y k)))
theorem g_UQ {ρ ρ' : St} (h : ag0 ρ ρ') : UQ ρ' = UQ ρ := by
  funext y k q
  unfold UQ
  rw [g_UM h]
theorem g_gR {ρ ρ' : St} (h : ag0 ρ ρ') : gR ρ' = gR ρ := by
  funext y q x
  unfold gR
  rw [g_UQ h]
theorem g_SmK {ρ ρ' : St} (h : ag0 ρ ρ') : SmK ρ' = SmK ρ := by
  funext σ
  unfold SmK
  rw [g_LL h, g_gR h]
theorem g_EcK {ρ ρ' : St} (h : ag0 ρ ρ') : EcK ρ' = EcK ρ := by
  funext σ
  unfold EcK
  rw [g_LL h, g_gR h]
theorem g_hsB {ρ ρ' : St} (h : ag0 ρ ρ') : hsB ρ' = hsB ρ := by
  funext s a
  unfold hsB
  rw [g_hPt h]
theorem g_rwN {ρ ρ' : St} (h : ag0 ρ ρ') : rwN ρ' = rwN ρ := by
  funext s a
  unfold rwN
  rw [g_hsB h]
theorem g'_TP {ρ ρ' : St} {J : Int → Int → Int} (h : ag6 ρ ρ') : ∀ k, TP ρ' J k = TP ρ J k
  | 0 => by funext p i j c; unfold TP; rw [h.1.2.2.2.2.1]
  | k + 1 => by funext p i j c; unfold TP; rw [g'_TP h k, h.1.2.2.2.2.2.1, h.1.2.2.2.1, h.1.1, h.1.2.2.1, h.1.2.1, h.2]
theorem g_TP {ρ ρ' : St} (h : ag6 ρ ρ') : TP ρ' = TP ρ := funext (fun _ => funext (g'_TP h))
theorem g_Te {ρ ρ' : St} (h : ag6 ρ ρ') : Te ρ' = Te ρ := by
  funext J p i j c
  unfold Te
  rw [g_TP h]
theorem g_LoC {ρ ρ' : St} (h : ag6 ρ ρ') : LoC ρ' = LoC ρ := by
  funext J p i j v
  unfold LoC
  rw [g_Te h]
theorem g_DR {ρ ρ' : St} (h : ag6 ρ ρ') : DR ρ' ρ' = DR ρ ρ := by
  funext J f s0
  unfold DR
  rw [g_LL h.1, g_LoC h]
theorem g_Lw {ρ ρ' : St} (h : ag6 ρ ρ') : Lw ρ' = Lw ρ := by
  funext σ
  unfold Lw
  rw [g_DR h, g_LL h.1]
theorem g_Ml {ρ ρ' : St} (h : ag6 ρ ρ') : Ml ρ' = Ml ρ := by
  funext σ
  unfold Ml
  rw [g_DR h, g_LL h.1]
theorem g_OrdL {ρ ρ' : St} (h : ag0 ρ ρ') : OrdL ρ' = OrdL ρ := by
  funext f l n
  unfold OrdL
  rw [g_nQ h, g_hPt h, g_LL h]
theorem g_OrK {ρ ρ' : St} (h : ag6 ρ ρ') : OrK ρ' = OrK ρ := by
  funext σ
  unfold OrK
  rw [g_DR h, g_OrdL h.1, g_LL h.1]
theorem g_prN {ρ ρ' : St} (h : ag6 ρ ρ') : prN ρ' = prN ρ := by
  funext k
  unfold prN
  rw [h.2]
theorem g_cwt {ρ ρ' : St} (h : ag6 ρ ρ') : cwt ρ' = cwt ρ := by
  funext w c k
  unfold cwt
  rw [g_prN h]
theorem g_ctF {ρ ρ' : St} (h : ag6 ρ ρ') : ctF ρ' = ctF ρ := by
  funext w q c
  unfold ctF
  rw [g_cwt h, g_cI h.1]
theorem g'_ctH {ρ ρ' : St} (h : ag6 ρ ρ') : ∀ n, ctH ρ' n = ctH ρ n
  | 0 => rfl
  | n + 1 => by funext q c; unfold ctH; rw [g_ctF h, g'_ctH h n]
theorem g_ctH {ρ ρ' : St} (h : ag6 ρ ρ') : ctH ρ' = ctH ρ := funext (g'_ctH h)
theorem g_ct {ρ ρ' : St} (h : ag6 ρ ρ') : ct ρ' = ct ρ := by
  funext q c
  unfold ct
  rw [g_ctH h]
theorem g_nn {ρ ρ' : St} (h : ag6 ρ ρ') : nn ρ' = nn ρ := by
  funext q c
  unfold nn
  rw [g_ct h]
theorem g_Taq {ρ ρ' : St} (h : ag6 ρ ρ') : Taq ρ' = Taq ρ := by
  funext σ q k
  unfold Taq
  rw [g_nn h, g_ct h]
theorem g_TaO {ρ ρ' : St} (h : ag6 ρ ρ') : TaO ρ' = TaO ρ := by
  funext σ m t
  unfold TaO
  rw [g_Taq h]
theorem g_prdS {ρ ρ' : St} (h : ag6 ρ ρ') : prdS ρ' = prdS ρ := by
  funext R k
  unfold prdS
  rw [h.2]
theorem g_fE {ρ ρ' : St} (h : ag6 ρ ρ') : fE ρ' = fE ρ := by
  funext s j k
  unfold fE
  rw [g_fullC h.1, g_rwN h.1, h.2]
theorem g_gE {ρ ρ' : St} (h : ag6 ρ ρ') : gE ρ' = gE ρ := by
  funext R k
  unfold gE
  rw [g_fullC h.1, g_prdS h]
theorem g_ent {ρ ρ' : St} (h : ag6 ρ ρ') : ent ρ' = ent ρ := by
  funext s R a j l
  unfold ent
  rw [g_rwN h.1, g_fE h, g_gE h]
theorem g_eqMt {ρ ρ' : St} (h : ag6 ρ ρ') : eqMt ρ' = eqMt ρ := by
  funext s R t
  unfold eqMt
  rw [g_hsB h.1, g_rwN h.1, g_ent h, g_cI h.1]
theorem g_bdP {ρ ρ' : St} (h : ag0 ρ ρ') : bdP ρ' = bdP ρ := by
  funext s R t
  unfold bdP
  rw [g_hsB h, g_cI h, g_fullC h]
theorem g_elS {ρ ρ' : St} (h : ag6 ρ ρ') : elS ρ' = elS ρ := by
  funext s R
  unfold elS
  rw [g_rwN h.1, g_eqMt h]
theorem g_flP {ρ ρ' : St} (h : ag6 ρ ρ') : flP ρ' = flP ρ := by
  funext s R
  unfold flP
  rw [g_bdP h.1, g_elS h]
theorem g'_RS {ρ ρ' : St} (h : ag6 ρ ρ') : ∀ n, RS ρ' n = RS ρ n
  | 0 => rfl
  | n + 1 => by unfold RS; rw [g'_RS h n, g_flP h, g_elS h, g_rwN h.1]
theorem g_RS {ρ ρ' : St} (h : ag6 ρ ρ') : RS ρ' = RS ρ := funext (g'_RS h)
theorem g_SuK {ρ ρ' : St} (h : ag6 ρ ρ') : SuK ρ' = SuK ρ := by
  funext σ n
  unfold SuK
  rw [g_RS h, g_hsB h.1]
theorem g_cq {ρ ρ' : St} (h : ag0 ρ ρ') : cq ρ' = cq ρ := by
  funext q t
  unfold cq
  rw [g_cI h]
theorem g_cf {ρ ρ' : St} (h : ag0 ρ ρ') : cf ρ' = cf ρ := by
  funext q t
  unfold cf
  rw [g_cq h]
theorem g_cg {ρ ρ' : St} (h : ag0 ρ ρ') : cg ρ' = cg ρ := by
  funext q t
  unfold cg
  rw [g_cq h]
theorem g_cp {ρ ρ' : St} (h : ag6 ρ ρ') : cp ρ' = cp ρ := by
  funext q t
  unfold cp
  rw [g_cq h.1, h.2]
theorem g_CandE {ρ ρ' : St} (h : ag6 ρ ρ') : CandE ρ' = CandE ρ := by
  funext F q z
  unfold CandE
  rw [g_cI h.1, g_cf h.1, g_cg h.1, g_cp h]
theorem g'_FLn {ρ ρ' : St} (h : ag0 ρ ρ') : ∀ F n, FLn ρ' F n = FLn ρ F n
  | _, 0 => rfl
  | F, n + 1 => by funext q k l; unfold FLn; rw [g'_FLn h F n, g_cf h, g_cg h]
theorem g_FLn {ρ ρ' : St} (h : ag0 ρ ρ') : FLn ρ' = FLn ρ := funext (fun F => funext (g'_FLn h F))
theorem g_FL {ρ ρ' : St} (h : ag0 ρ ρ') : FL ρ' = FL ρ := by
  funext F q k l
  unfold FL
  rw [g_FLn h]
theorem g_SHp {ρ ρ' : St} (h : ag0 ρ ρ') : SHp ρ' = SHp ρ := by
  funext F q z w
  unfold SHp
  rw [g_FL h, g_cf h, g_cg h]
theorem g_ltE {ρ ρ' : St} (h : ag0 ρ ρ') : ltE ρ' = ltE ρ := by
  funext F q z w
  unfold ltE
  rw [g_SHp h]
theorem g_ClF {ρ ρ' : St} (h : ag6 ρ ρ') : ClF ρ' = ClF ρ := by
  funext F D
  unfold ClF
  rw [g_CandE h, g_ltE h.1, g_cI h.1, g_cf h.1, g_cg h.1, g_cp h]
theorem g_FRc {ρ ρ' : St} (h : ag0 ρ ρ') : FRc ρ' = FRc ρ := by
  funext σ F D
  unfold FRc
  rw [g_LL h, g_PL h]
theorem g_flB {ρ ρ' : St} (h : ag0 ρ ρ') : flB ρ' = flB ρ := by
  funext F q k
  unfold flB
  rw [g_FL h]
theorem g_rkN {ρ ρ' : St} (h : ag0 ρ ρ') : rkN ρ' = rkN ρ := by
  funext F q k
  unfold rkN
  rw [g_flB h]
theorem g_RKc {ρ ρ' : St} (h : ag0 ρ ρ') : RKc ρ' = RKc ρ := by
  funext σ F D
  unfold RKc
  rw [g_rkN h]
theorem g_fD {ρ ρ' : St} (h : ag0 ρ ρ') : fD ρ' = fD ρ := by
  funext σ q
  unfold fD
  rw [g_LL h]
theorem g_FoF {ρ ρ' : St} (h : ag6 ρ ρ') : FoF ρ' = FoF ρ := by
  funext σ F
  unfold FoF
  rw [g_ClF h, g_fD h.1, g_FRc h.1, g_RKc h.1, g_ltE h.1, g_CandE h]
theorem g_FoK {ρ ρ' : St} (h : ag6 ρ ρ') : FoK ρ' = FoK ρ := by
  funext σ
  unfold FoK
  rw [g_FoF h]
theorem g_LoX {ρ ρ' : St} (h : ag6 ρ ρ') : LoX ρ' = LoX ρ := by
  funext A N v
  unfold LoX
  rw [g_Te h]
theorem g_Mv {ρ ρ' : St} (h : ag6 ρ ρ') : Mv ρ' = Mv ρ := by
  funext p x v
  have u : ag6 (upS ρ 11 p x) (upS ρ' 11 p x) := by
    refine ⟨⟨?_, ?_, ?_, ?_, ?_, ?_, ?_⟩, ?_⟩
    · rw [upS_k (by decide), upS_k (by decide)]; exact h.1.1
    · rw [upS_k (by decide), upS_k (by decide)]; exact h.1.2.1
    · rw [upS_k (by decide), upS_k (by decide)]; exact h.1.2.2.1
    · rw [upS_k (by decide), upS_k (by decide)]; exact h.1.2.2.2.1
    · funext j
      by_cases e : j = p
      · rw [e, upS_s, upS_s]
      · rw [upS_j e, upS_j e, h.1.2.2.2.2.1]
    · rw [upS_k (by decide), upS_k (by decide)]; exact h.1.2.2.2.2.2.1
    · rw [upS_k (by decide), upS_k (by decide)]; exact h.1.2.2.2.2.2.2
    · rw [upS_k (by decide), upS_k (by decide)]; exact h.2
  unfold Mv
  rw [g_LoX u, h.1.2.2.2.2.2.1, h.1.1, h.1.2.2.2.2.2.2]
theorem g'_mdS {ρ ρ' : St} (h : ag0 ρ ρ') : ∀ V k, mdS ρ' V k = mdS ρ V k
  | _, 0 => rfl
  | V, k + 1 => by unfold mdS; rw [g'_mdS h V k, h.2.2.2.2.1]
theorem g_mdS {ρ ρ' : St} (h : ag0 ρ ρ') : mdS ρ' = mdS ρ := funext (fun V => funext (g'_mdS h V))
theorem g_CHm {ρ ρ' : St} (h : ag0 ρ ρ') : CHm ρ' = CHm ρ := by
  funext V σ k
  unfold CHm
  rw [g_mdS h]
theorem g_MKm {ρ ρ' : St} (h : ag6 ρ ρ') : MKm ρ' = MKm ρ := by
  funext σ
  unfold MKm
  rw [g_LL h.1, g_Mv h, g_CHm h.1]
theorem g_vPl {ρ ρ' : St} (h : agV ρ ρ') : vPl ρ' = vPl ρ := by
  funext a b
  unfold vPl
  rw [h.2.2.1, h.2.2.2.2.1]
theorem g_vTi {ρ ρ' : St} (h : agV ρ ρ') : vTi ρ' = vTi ρ := by
  funext a b
  unfold vTi
  rw [h.2.2.2.1, h.2.2.2.2.1]
theorem g_vpW {ρ ρ' : St} (h : agV ρ ρ') : vpW ρ' = vpW ρ := by
  funext w x
  unfold vpW
  rw [h.2.2.2.2.2.2]
theorem g_vPr {ρ ρ' : St} (h : agV ρ ρ') : vPr ρ' = vPr ρ := by
  funext w c
  unfold vPr
  rw [g_vTi h, h.2.1, g_vpW h]
theorem g_vFo {ρ ρ' : St} (h : agV ρ ρ') : vFo ρ' = vFo ρ := by
  funext w a l
  unfold vFo
  rw [g_vPl h, g_vPr h]
theorem g_vNew {ρ ρ' : St} (h : agV ρ ρ') : vNew ρ' = vNew ρ := by
  funext w q
  unfold vNew
  rw [g_vFo h, h.2.2.2.2.2.1, g_cI h.1]
theorem g'_vIt {ρ ρ' : St} (h : agV ρ ρ') : ∀ n, vIt ρ' n = vIt ρ n
  | 0 => by unfold vIt; rw [h.2.2.2.2.2.1]
  | n + 1 => by unfold vIt; rw [g_vNew h, g'_vIt h n]
theorem g_vIt {ρ ρ' : St} (h : agV ρ ρ') : vIt ρ' = vIt ρ := funext (g'_vIt h)
theorem g_chg {ρ ρ' : St} (h : agV ρ ρ') : chg ρ' = chg ρ := by
  funext w n
  unfold chg
  rw [g_vNew h]
theorem g_VT {ρ ρ' : St} (h : agV ρ ρ') : VT ρ' = VT ρ := by
  funext t
  unfold VT
  rw [g_chg h, g_vIt h, g_LL h.1]
theorem g_VK {ρ ρ' : St} (h : agV ρ ρ') : VK ρ' = VK ρ := by
  funext σ
  unfold VK
  rw [g_VT h, g_vIt h, g_LL h.1]
