set_option maxHeartbeats 1000000 in
theorem mf_X12_feed_l55 {Q Q' : Int → St → Prop} {σ0 : St} (hq : ∀ (r : Int) (σ1 : St), Q r σ1 → Fr S_X12_feed σ0 σ1 → Q' r σ1) : ∀ (n : Nat) (x6 : Int) (σ : St), Fr S_X12_feed σ0 σ → wp_X12_feed_l55 Q n x6 σ → wp_X12_feed_l55 Q' n x6 σ := by
  intro n
  induction n with
  | zero => intro _ _ _ h; exact h.elim
  | succ n ih =>
    intro x6 σ f0 h
    unfold wp_X12_feed_l55 at h ⊢
    refine ⟨fun hc => ?_, fun hc => ?_⟩
    · replace h := h.1 hc
      intro σ6 eσ6; replace h := h σ6 eσ6; have fσ6 : Fr S_X12_feed σ0 σ6 := by rw [eσ6]; exact f0.up rfl
      exact hq _ _ h fσ6
    · replace h := h.2 hc
      refine ⟨h.1, ?_⟩; replace h := h.2
      refine ⟨h.1, fun σ7 eσ7 => ?_⟩; replace h := h.2 σ7 eσ7; have fσ7 : Fr S_X12_feed σ0 σ7 := by rw [eσ7]; exact f0.up rfl
      intro v8 ev8; replace h := h v8 ev8
      exact ih _ _ fσ7 h
set_option maxHeartbeats 1000000 in
theorem mf_X12_feed {Q Q' : Int → St → Prop} {σ0 : St} (hq : ∀ (r : Int) (σ1 : St), Q r σ1 → Fr S_X12_feed σ0 σ1 → Q' r σ1) {x1 x2 x3 x4 x5 : Int} {σ : St} (f0 : Fr S_X12_feed σ0 σ) (h : wp_X12_feed x1 x2 x3 x4 x5 σ Q) : wp_X12_feed x1 x2 x3 x4 x5 σ Q' := by
  unfold wp_X12_feed at h ⊢
  refine ⟨fun hc => ?_, fun hc => ?_⟩
  · replace h := h.1 hc
    intro σ1 eσ1; replace h := h σ1 eσ1; have fσ1 : Fr S_X12_feed σ0 σ1 := by rw [eσ1]; exact f0.up rfl
    intro σ2 eσ2; replace h := h σ2 eσ2; have fσ2 : Fr S_X12_feed σ0 σ2 := by rw [eσ2]; exact fσ1.up rfl
    intro σ3 eσ3; replace h := h σ3 eσ3; have fσ3 : Fr S_X12_feed σ0 σ3 := by rw [eσ3]; exact fσ2.up rfl
    intro σ4 eσ4; replace h := h σ4 eσ4; have fσ4 : Fr S_X12_feed σ0 σ4 := by rw [eσ4]; exact fσ3.up rfl
    intro σ5 eσ5; replace h := h σ5 eσ5; have fσ5 : Fr S_X12_feed σ0 σ5 := by rw [eσ5]; exact fσ4.up rfl
    exact mf_X12_feed_l55 hq bigN _ _ fσ5 h
  · replace h := h.2 hc
    exact hq _ _ h f0
set_option maxHeartbeats 1000000 in
theorem mf_X12_in_b17 {Q Q' : Int → St → Prop} {σ0 : St} (hq : ∀ (r : Int) (σ1 : St), Q r σ1 → Fr S_X12_in σ0 σ1 → Q' r σ1) {σ : St} (f0 : Fr S_X12_in σ0 σ) (h : wp_X12_in_b17 Q  σ) : wp_X12_in_b17 Q'  σ := by
  unfold wp_X12_in_b17 at h ⊢
  exact hq _ _ h f0
set_option maxHeartbeats 1000000 in
theorem mf_X12_in {Q Q' : Int → St → Prop} {σ0 : St} (hq : ∀ (r : Int) (σ1 : St), Q r σ1 → Fr S_X12_in σ0 σ1 → Q' r σ1) {x0 x2 x4 : Int} {σ : St} (f0 : Fr S_X12_in σ0 σ) (h : wp_X12_in x0 x2 x4 σ Q) : wp_X12_in x0 x2 x4 σ Q' := by
  unfold wp_X12_in at h ⊢
  refine ⟨fun hc => ?_, fun hc => ?_⟩
  · replace h := h.1 hc
    exact mf_X12_in_b17 hq f0 h
  · replace h := h.2 hc
    refine ⟨fun hc => ?_, fun hc => ?_⟩
    · replace h := h.1 hc
      exact mf_X12_in_b17 hq f0 h
    · replace h := h.2 hc
      exact hq _ _ h f0
set_option maxHeartbeats 1000000 in
theorem mf_X12_end {Q Q' : Int → St → Prop} {σ0 : St} (hq : ∀ (r : Int) (σ1 : St), Q r σ1 → Fr S_X12_end σ0 σ1 → Q' r σ1) {x1 : Int} {σ : St} (f0 : Fr S_X12_end σ0 σ) (h : wp_X12_end x1 σ Q) : wp_X12_end x1 σ Q' := by
  unfold wp_X12_end at h ⊢
  refine mf_X12_in (fun r1 σ2 h gσ2 => ?_) Fr.rf h
  have fσ2 : Fr S_X12_end σ0 σ2 := f0.tr gσ2 (mkS_sub (by decide) (by decide))
  refine ⟨fun hc => ?_, fun hc => ?_⟩
  · replace h := h.1 hc
    intro σ3 eσ3; replace h := h σ3 eσ3; have fσ3 : Fr S_X12_end σ0 σ3 := by rw [eσ3]; exact fσ2.up rfl
    exact hq _ _ h fσ3
  · replace h := h.2 hc
    exact hq _ _ h fσ2
set_option maxHeartbeats 1000000 in
theorem mf_X12_see {Q Q' : Int → St → Prop} {σ0 : St} (hq : ∀ (r : Int) (σ1 : St), Q r σ1 → Fr S_X12_see σ0 σ1 → Q' r σ1) {x1 : Int} {σ : St} (f0 : Fr S_X12_see σ0 σ) (h : wp_X12_see x1 σ Q) : wp_X12_see x1 σ Q' := by
  unfold wp_X12_see at h ⊢
  refine ⟨fun hc => ?_, fun hc => ?_⟩
  · replace h := h.1 hc
    exact hq _ _ h f0
  · replace h := h.2 hc
    refine ⟨h.1, ?_⟩; replace h := h.2
    exact hq _ _ h f0
set_option maxHeartbeats 1000000 in
theorem mf_X12_advance_b26 {Q Q' : Int → St → Prop} {σ0 : St} (hq : ∀ (r : Int) (σ1 : St), Q r σ1 → Fr S_X12_advance σ0 σ1 → Q' r σ1) {K0 K0' : St → Prop} (hK0 : ∀ (σ : St), Fr S_X12_advance σ0 σ → K0  σ → K0'  σ) {σ : St} (f0 : Fr S_X12_advance σ0 σ) (h : wp_X12_advance_b26 Q K0  σ) : wp_X12_advance_b26 Q' K0'  σ := by
  unfold wp_X12_advance_b26 at h ⊢
  intro σ17 eσ17; replace h := h σ17 eσ17; have fσ17 : Fr S_X12_advance σ0 σ17 := by rw [eσ17]; exact f0.up rfl
  exact hK0  _ fσ17 h
set_option maxHeartbeats 1000000 in
theorem mf_X12_advance_l83 {Q Q' : Int → St → Prop} {σ0 : St} (hq : ∀ (r : Int) (σ1 : St), Q r σ1 → Fr S_X12_advance σ0 σ1 → Q' r σ1) : ∀ (n : Nat) (σ : St), Fr S_X12_advance σ0 σ → wp_X12_advance_l83 Q n  σ → wp_X12_advance_l83 Q' n  σ := by
  intro n
  induction n with
  | zero => intro _ _ h; exact h.elim
  | succ n ih =>
    intro σ f0 h
    unfold wp_X12_advance_l83 at h ⊢
    refine mf_X12_see (fun r30 σ31 h gσ31 => ?_) Fr.rf h
    have fσ31 : Fr S_X12_advance σ0 σ31 := f0.tr gσ31 (mkS_sub (by decide) (by decide))
    refine mf_X12_in (fun r32 σ33 h gσ33 => ?_) Fr.rf h
    have fσ33 : Fr S_X12_advance σ0 σ33 := fσ31.tr gσ33 (mkS_sub (by decide) (by decide))
    refine ⟨fun hc => ?_, fun hc => ?_⟩
    · replace h := h.1 hc
      intro σ34 eσ34; replace h := h σ34 eσ34; have fσ34 : Fr S_X12_advance σ0 σ34 := by rw [eσ34]; exact fσ33.up rfl
      exact hq _ _ h fσ34
    · replace h := h.2 hc
      intro σ35 eσ35; replace h := h σ35 eσ35; have fσ35 : Fr S_X12_advance σ0 σ35 := by rw [eσ35]; exact fσ33.up rfl
      exact ih  _ fσ35 h
set_option maxHeartbeats 1000000 in
theorem mf_X12_advance_l144 {Q Q' : Int → St → Prop} {σ0 : St} (hq : ∀ (r : Int) (σ1 : St), Q r σ1 → Fr S_X12_advance σ0 σ1 → Q' r σ1) : ∀ (n : Nat) (σ : St), Fr S_X12_advance σ0 σ → wp_X12_advance_l144 Q n  σ → wp_X12_advance_l144 Q' n  σ := by
  intro n
  induction n with
  | zero => intro _ _ h; exact h.elim
  | succ n ih =>
    intro σ f0 h
    unfold wp_X12_advance_l144 at h ⊢
    refine mf_X12_see (fun r21 σ22 h gσ22 => ?_) Fr.rf h
    have fσ22 : Fr S_X12_advance σ0 σ22 := f0.tr gσ22 (mkS_sub (by decide) (by decide))
    refine mf_X12_in (fun r23 σ24 h gσ24 => ?_) Fr.rf h
    have fσ24 : Fr S_X12_advance σ0 σ24 := fσ22.tr gσ24 (mkS_sub (by decide) (by decide))
    refine ⟨fun hc => ?_, fun hc => ?_⟩
    · replace h := h.1 hc
      intro σ25 eσ25; replace h := h σ25 eσ25; have fσ25 : Fr S_X12_advance σ0 σ25 := by rw [eσ25]; exact fσ24.up rfl
      exact hq _ _ h fσ25
    · replace h := h.2 hc
      refine mf_X12_see (fun r26 σ27 h gσ27 => ?_) Fr.rf h
      have fσ27 : Fr S_X12_advance σ0 σ27 := fσ24.tr gσ27 (mkS_sub (by decide) (by decide))
      intro σ28 eσ28; replace h := h σ28 eσ28; have fσ28 : Fr S_X12_advance σ0 σ28 := by rw [eσ28]; exact fσ27.up rfl
      intro σ29 eσ29; replace h := h σ29 eσ29; have fσ29 : Fr S_X12_advance σ0 σ29 := by rw [eσ29]; exact fσ28.up rfl
      exact ih  _ fσ29 h
set_option maxHeartbeats 1000000 in
theorem mf_X12_advance_b287 {Q Q' : Int → St → Prop} {σ0 : St} (hq : ∀ (r : Int) (σ1 : St), Q r σ1 → Fr S_X12_advance σ0 σ1 → Q' r σ1) {s0 : Int} {σ : St} (f0 : Fr S_X12_advance σ0 σ) (h : wp_X12_advance_b287 Q s0 σ) : wp_X12_advance_b287 Q' s0 σ := by
  unfold wp_X12_advance_b287 at h ⊢
  intro σ36 eσ36; replace h := h σ36 eσ36; have fσ36 : Fr S_X12_advance σ0 σ36 := by rw [eσ36]; exact f0.up rfl
  exact hq _ _ h fσ36
set_option maxHeartbeats 1000000 in
theorem mf_X12_advance_b282 {Q Q' : Int → St → Prop} {σ0 : St} (hq : ∀ (r : Int) (σ1 : St), Q r σ1 → Fr S_X12_advance σ0 σ1 → Q' r σ1) {σ : St} (f0 : Fr S_X12_advance σ0 σ) (h : wp_X12_advance_b282 Q  σ) : wp_X12_advance_b282 Q'  σ := by
  unfold wp_X12_advance_b282 at h ⊢
  exact mf_X12_advance_b287 hq f0 h
set_option maxHeartbeats 1000000 in
theorem mf_X12_advance_b248 {Q Q' : Int → St → Prop} {σ0 : St} (hq : ∀ (r : Int) (σ1 : St), Q r σ1 → Fr S_X12_advance σ0 σ1 → Q' r σ1) {x1 s0 : Int} {σ : St} (f0 : Fr S_X12_advance σ0 σ) (h : wp_X12_advance_b248 Q x1 s0 σ) : wp_X12_advance_b248 Q' x1 s0 σ := by
  unfold wp_X12_advance_b248 at h ⊢
  intro σ18 eσ18; replace h := h σ18 eσ18; have fσ18 : Fr S_X12_advance σ0 σ18 := by rw [eσ18]; exact f0.up rfl
  refine mf_X12_in (fun r19 σ20 h gσ20 => ?_) Fr.rf h
  have fσ20 : Fr S_X12_advance σ0 σ20 := fσ18.tr gσ20 (mkS_sub (by decide) (by decide))
  refine ⟨fun hc => ?_, fun hc => ?_⟩
  · replace h := h.1 hc
    refine ⟨fun hc => ?_, fun hc => ?_⟩
    · replace h := h.1 hc
      exact mf_X12_advance_b282 hq fσ20 h
    · replace h := h.2 hc
      refine ⟨fun hc => ?_, fun hc => ?_⟩
      · replace h := h.1 hc
        exact mf_X12_advance_b287 hq fσ20 h
      · replace h := h.2 hc
        exact mf_X12_advance_b282 hq fσ20 h
  · replace h := h.2 hc
    exact mf_X12_advance_b287 hq fσ20 h
set_option maxHeartbeats 1000000 in
theorem mf_X12_advance_l0 {Q Q' : Int → St → Prop} {σ0 : St} (hq : ∀ (r : Int) (σ1 : St), Q r σ1 → Fr S_X12_advance σ0 σ1 → Q' r σ1) : ∀ (n : Nat) (σ : St), Fr S_X12_advance σ0 σ → wp_X12_advance_l0 Q n  σ → wp_X12_advance_l0 Q' n  σ := by
  intro n
  induction n with
  | zero => intro _ _ h; exact h.elim
  | succ n ih =>
    intro σ f0 h
    unfold wp_X12_advance_l0 at h ⊢
    refine mf_X12_see (fun r1 σ2 h gσ2 => ?_) Fr.rf h
    have fσ2 : Fr S_X12_advance σ0 σ2 := f0.tr gσ2 (mkS_sub (by decide) (by decide))
    refine ⟨fun hc => ?_, fun hc => ?_⟩
    · replace h := h.1 hc
      exact mf_X12_advance_b26 hq ih fσ2 h
    · replace h := h.2 hc
      refine mf_X12_see (fun r3 σ4 h gσ4 => ?_) Fr.rf h
      have fσ4 : Fr S_X12_advance σ0 σ4 := fσ2.tr gσ4 (mkS_sub (by decide) (by decide))
      refine ⟨fun hc => ?_, fun hc => ?_⟩
      · replace h := h.1 hc
        intro σ5 eσ5; replace h := h σ5 eσ5; have fσ5 : Fr S_X12_advance σ0 σ5 := by rw [eσ5]; exact fσ4.up rfl
        refine mf_X12_see (fun r6 σ7 h gσ7 => ?_) Fr.rf h
        have fσ7 : Fr S_X12_advance σ0 σ7 := fσ5.tr gσ7 (mkS_sub (by decide) (by decide))
        refine ⟨fun hc => ?_, fun hc => ?_⟩
        · replace h := h.1 hc
          refine mf_X12_in (fun r8 σ9 h gσ9 => ?_) Fr.rf h
          have fσ9 : Fr S_X12_advance σ0 σ9 := fσ7.tr gσ9 (mkS_sub (by decide) (by decide))
          refine ⟨fun hc => ?_, fun hc => ?_⟩
          · replace h := h.1 hc
            refine mf_X12_in (fun r10 σ11 h gσ11 => ?_) Fr.rf h
            have fσ11 : Fr S_X12_advance σ0 σ11 := fσ9.tr gσ11 (mkS_sub (by decide) (by decide))
            refine ⟨fun hc => ?_, fun hc => ?_⟩
            · replace h := h.1 hc
              intro σ12 eσ12; replace h := h σ12 eσ12; have fσ12 : Fr S_X12_advance σ0 σ12 := by rw [eσ12]; exact fσ11.up rfl
              refine mf_X12_in (fun r13 σ14 h gσ14 => ?_) Fr.rf h
              have fσ14 : Fr S_X12_advance σ0 σ14 := fσ12.tr gσ14 (mkS_sub (by decide) (by decide))
              refine ⟨fun hc => ?_, fun hc => ?_⟩
              · replace h := h.1 hc
                exact mf_X12_advance_b248 hq fσ14 h
              · replace h := h.2 hc
                exact mf_X12_advance_b248 hq fσ14 h
            · replace h := h.2 hc
              intro σ15 eσ15; replace h := h σ15 eσ15; have fσ15 : Fr S_X12_advance σ0 σ15 := by rw [eσ15]; exact fσ11.up rfl
              exact mf_X12_advance_l144 hq bigN  _ fσ15 h
          · replace h := h.2 hc
            exact mf_X12_advance_l83 hq bigN  _ fσ9 h
        · replace h := h.2 hc
          intro σ16 eσ16; replace h := h σ16 eσ16; have fσ16 : Fr S_X12_advance σ0 σ16 := by rw [eσ16]; exact fσ7.up rfl
          exact hq _ _ h fσ16
      · replace h := h.2 hc
        exact mf_X12_advance_b26 hq ih fσ4 h
set_option maxHeartbeats 1000000 in
theorem mf_X12_advance {Q Q' : Int → St → Prop} {σ0 : St} (hq : ∀ (r : Int) (σ1 : St), Q r σ1 → Fr S_X12_advance σ0 σ1 → Q' r σ1) {σ : St} (f0 : Fr S_X12_advance σ0 σ) (h : wp_X12_advance  σ Q) : wp_X12_advance  σ Q' := by
  unfold wp_X12_advance at h ⊢
  exact mf_X12_advance_l0 hq bigN  _ f0 h
set_option maxHeartbeats 1000000 in
theorem mf_X12_good {Q Q' : Int → St → Prop} {σ0 : St} (hq : ∀ (r : Int) (σ1 : St), Q r σ1 → Fr S_X12_good σ0 σ1 → Q' r σ1) {σ : St} (f0 : Fr S_X12_good σ0 σ) (h : wp_X12_good  σ Q) : wp_X12_good  σ Q' := by
  unfold wp_X12_good at h ⊢
  refine ⟨fun hc => ?_, fun hc => ?_⟩
  · replace h := h.1 hc
    exact hq _ _ h f0
  · replace h := h.2 hc
    exact hq _ _ h f0
set_option maxHeartbeats 1000000 in
theorem mf_X12_is_s8_b75 {Q Q' : Int → St → Prop} {σ0 : St} (hq : ∀ (r : Int) (σ1 : St), Q r σ1 → Fr S_X12_is_s8 σ0 σ1 → Q' r σ1) {K39 K39' : Int → Int → St → Prop} (hK39 : ∀ (x2 : Int) (x3 : Int) (σ : St), Fr S_X12_is_s8 σ0 σ → K39 x2 x3 σ → K39' x2 x3 σ) {x3 s0 : Int} {σ : St} (f0 : Fr S_X12_is_s8 σ0 σ) (h : wp_X12_is_s8_b75 Q K39 x3 s0 σ) : wp_X12_is_s8_b75 Q' K39' x3 s0 σ := by
  unfold wp_X12_is_s8_b75 at h ⊢
  intro v3 ev3; replace h := h v3 ev3
  exact hK39 _ _ _ f0 h
set_option maxHeartbeats 1000000 in
theorem mf_X12_is_s8_l39 {Q Q' : Int → St → Prop} {σ0 : St} (hq : ∀ (r : Int) (σ1 : St), Q r σ1 → Fr S_X12_is_s8 σ0 σ1 → Q' r σ1) : ∀ (n : Nat) (x2 : Int) (x3 : Int) (σ : St), Fr S_X12_is_s8 σ0 σ → wp_X12_is_s8_l39 Q n x2 x3 σ → wp_X12_is_s8_l39 Q' n x2 x3 σ := by
  intro n
  induction n with
  | zero => intro _ _ _ _ h; exact h.elim
  | succ n ih =>
    intro x2 x3 σ f0 h
    unfold wp_X12_is_s8_l39 at h ⊢
    refine ⟨fun hc => ?_, fun hc => ?_⟩
    · replace h := h.1 hc
      exact ⟨h.1, hq _ _ h.2 f0⟩
    · replace h := h.2 hc
      refine ⟨fun hc => ?_, fun hc => ?_⟩
      · replace h := h.1 hc
        exact ⟨h.1, hq _ _ h.2 f0⟩
      · replace h := h.2 hc
        refine ⟨h.1, ?_⟩; replace h := h.2
        refine ⟨h.1, ?_⟩; replace h := h.2
        refine ⟨fun hc => ?_, fun hc => ?_⟩
        · replace h := h.1 hc
          exact mf_X12_is_s8_b75 hq ih f0 h
        · replace h := h.2 hc
          exact mf_X12_is_s8_b75 hq ih f0 h
set_option maxHeartbeats 1000000 in
theorem mf_X12_is_s8_b36 {Q Q' : Int → St → Prop} {σ0 : St} (hq : ∀ (r : Int) (σ1 : St), Q r σ1 → Fr S_X12_is_s8 σ0 σ1 → Q' r σ1) {s0 : Int} {σ : St} (f0 : Fr S_X12_is_s8 σ0 σ) (h : wp_X12_is_s8_b36 Q s0 σ) : wp_X12_is_s8_b36 Q' s0 σ := by
  unfold wp_X12_is_s8_b36 at h ⊢
  exact mf_X12_is_s8_l39 hq bigN _ _ _ f0 h
set_option maxHeartbeats 1000000 in
theorem mf_X12_is_s8_b35 {Q Q' : Int → St → Prop} {σ0 : St} (hq : ∀ (r : Int) (σ1 : St), Q r σ1 → Fr S_X12_is_s8 σ0 σ1 → Q' r σ1) {σ : St} (f0 : Fr S_X12_is_s8 σ0 σ) (h : wp_X12_is_s8_b35 Q  σ) : wp_X12_is_s8_b35 Q'  σ := by
  unfold wp_X12_is_s8_b35 at h ⊢
  exact mf_X12_is_s8_b36 hq f0 h
set_option maxHeartbeats 1000000 in
theorem mf_X12_is_s8 {Q Q' : Int → St → Prop} {σ0 : St} (hq : ∀ (r : Int) (σ1 : St), Q r σ1 → Fr S_X12_is_s8 σ0 σ1 → Q' r σ1) {σ : St} (f0 : Fr S_X12_is_s8 σ0 σ) (h : wp_X12_is_s8  σ Q) : wp_X12_is_s8  σ Q' := by
  unfold wp_X12_is_s8 at h ⊢
  refine mf_X12_good (fun r1 σ2 h gσ2 => ?_) Fr.rf h
  have fσ2 : Fr S_X12_is_s8 σ0 σ2 := f0.tr gσ2 (mkS_sub (by decide) (by decide))
  refine ⟨fun hc => ?_, fun hc => ?_⟩
  · replace h := h.1 hc
    exact mf_X12_is_s8_b35 hq fσ2 h
  · replace h := h.2 hc
    refine ⟨fun hc => ?_, fun hc => ?_⟩
    · replace h := h.1 hc
      exact mf_X12_is_s8_b35 hq fσ2 h
    · replace h := h.2 hc
      refine ⟨fun hc => ?_, fun hc => ?_⟩
      · replace h := h.1 hc
        exact mf_X12_is_s8_b35 hq fσ2 h
      · replace h := h.2 hc
        exact mf_X12_is_s8_b36 hq fσ2 h
set_option maxHeartbeats 1000000 in
theorem mf_X12_errs {Q Q' : Int → St → Prop} {σ0 : St} (hq : ∀ (r : Int) (σ1 : St), Q r σ1 → Fr S_X12_errs σ0 σ1 → Q' r σ1) {x1 : Int} {σ : St} (f0 : Fr S_X12_errs σ0 σ) (h : wp_X12_errs x1 σ Q) : wp_X12_errs x1 σ Q' := by
  unfold wp_X12_errs at h ⊢
  refine mf_X12_good (fun r1 σ2 h gσ2 => ?_) Fr.rf h
  have fσ2 : Fr S_X12_errs σ0 σ2 := f0.tr gσ2 (mkS_sub (by decide) (by decide))
  refine ⟨fun hc => ?_, fun hc => ?_⟩
  · replace h := h.1 hc
    intro σ3 eσ3; replace h := h σ3 eσ3; have fσ3 : Fr S_X12_errs σ0 σ3 := by rw [eσ3]; exact fσ2.up rfl
    intro σ4 eσ4; replace h := h σ4 eσ4; have fσ4 : Fr S_X12_errs σ0 σ4 := by rw [eσ4]; exact fσ3.up rfl
    exact hq _ _ h fσ4
  · replace h := h.2 hc
    exact hq _ _ h fσ2
set_option maxHeartbeats 1000000 in
theorem mf_X12_takes_b47 {Q Q' : Int → St → Prop} {σ0 : St} (hq : ∀ (r : Int) (σ1 : St), Q r σ1 → Fr S_X12_takes σ0 σ1 → Q' r σ1) {x1 : Int} {σ : St} (f0 : Fr S_X12_takes σ0 σ) (h : wp_X12_takes_b47 Q x1 σ) : wp_X12_takes_b47 Q' x1 σ := by
  unfold wp_X12_takes_b47 at h ⊢
  refine mf_X12_good (fun r11 σ12 h gσ12 => ?_) Fr.rf h
  have fσ12 : Fr S_X12_takes σ0 σ12 := f0.tr gσ12 (mkS_sub (by decide) (by decide))
  refine ⟨fun hc => ?_, fun hc => ?_⟩
  · replace h := h.1 hc
    intro v13 ev13; replace h := h v13 ev13
    refine mf_X12_advance (fun r14 σ15 h gσ15 => ?_) Fr.rf h
    have fσ15 : Fr S_X12_takes σ0 σ15 := fσ12.tr gσ15 (mkS_sub (by decide) (by decide))
    exact hq _ _ h fσ15
  · replace h := h.2 hc
    exact hq _ _ h fσ12
set_option maxHeartbeats 1000000 in
theorem mf_X12_takes_b20 {Q Q' : Int → St → Prop} {σ0 : St} (hq : ∀ (r : Int) (σ1 : St), Q r σ1 → Fr S_X12_takes σ0 σ1 → Q' r σ1) {x1 x2 : Int} {σ : St} (f0 : Fr S_X12_takes σ0 σ) (h : wp_X12_takes_b20 Q x1 x2 σ) : wp_X12_takes_b20 Q' x1 x2 σ := by
  unfold wp_X12_takes_b20 at h ⊢
  refine mf_X12_good (fun r5 σ6 h gσ6 => ?_) Fr.rf h
  have fσ6 : Fr S_X12_takes σ0 σ6 := f0.tr gσ6 (mkS_sub (by decide) (by decide))
  refine ⟨fun hc => ?_, fun hc => ?_⟩
  · replace h := h.1 hc
    exact mf_X12_takes_b47 hq fσ6 h
  · replace h := h.2 hc
    refine mf_X12_in (fun r7 σ8 h gσ8 => ?_) Fr.rf h
    have fσ8 : Fr S_X12_takes σ0 σ8 := fσ6.tr gσ8 (mkS_sub (by decide) (by decide))
    refine ⟨fun hc => ?_, fun hc => ?_⟩
    · replace h := h.1 hc
      exact mf_X12_takes_b47 hq fσ8 h
    · replace h := h.2 hc
      refine mf_X12_errs (fun r9 σ10 h gσ10 => ?_) Fr.rf h
      have fσ10 : Fr S_X12_takes σ0 σ10 := fσ8.tr gσ10 (mkS_sub (by decide) (by decide))
      exact mf_X12_takes_b47 hq fσ10 h
set_option maxHeartbeats 1000000 in
theorem mf_X12_takes {Q Q' : Int → St → Prop} {σ0 : St} (hq : ∀ (r : Int) (σ1 : St), Q r σ1 → Fr S_X12_takes σ0 σ1 → Q' r σ1) {x1 x2 : Int} {σ : St} (f0 : Fr S_X12_takes σ0 σ) (h : wp_X12_takes x1 x2 σ Q) : wp_X12_takes x1 x2 σ Q' := by
  unfold wp_X12_takes at h ⊢
  refine mf_X12_good (fun r1 σ2 h gσ2 => ?_) Fr.rf h
  have fσ2 : Fr S_X12_takes σ0 σ2 := f0.tr gσ2 (mkS_sub (by decide) (by decide))
  refine ⟨fun hc => ?_, fun hc => ?_⟩
  · replace h := h.1 hc
    exact mf_X12_takes_b20 hq fσ2 h
  · replace h := h.2 hc
    refine ⟨fun hc => ?_, fun hc => ?_⟩
    · replace h := h.1 hc
      exact mf_X12_takes_b20 hq fσ2 h
    · replace h := h.2 hc
      refine mf_X12_errs (fun r3 σ4 h gσ4 => ?_) Fr.rf h
      have fσ4 : Fr S_X12_takes σ0 σ4 := fσ2.tr gσ4 (mkS_sub (by decide) (by decide))
      exact mf_X12_takes_b20 hq fσ4 h
set_option maxHeartbeats 1000000 in
theorem mf_X12_is_s9_b75 {Q Q' : Int → St → Prop} {σ0 : St} (hq : ∀ (r : Int) (σ1 : St), Q r σ1 → Fr S_X12_is_s9 σ0 σ1 → Q' r σ1) {K39 K39' : Int → Int → St → Prop} (hK39 : ∀ (x2 : Int) (x3 : Int) (σ : St), Fr S_X12_is_s9 σ0 σ → K39 x2 x3 σ → K39' x2 x3 σ) {x3 s0 : Int} {σ : St} (f0 : Fr S_X12_is_s9 σ0 σ) (h : wp_X12_is_s9_b75 Q K39 x3 s0 σ) : wp_X12_is_s9_b75 Q' K39' x3 s0 σ := by
  unfold wp_X12_is_s9_b75 at h ⊢
  intro v3 ev3; replace h := h v3 ev3
  exact hK39 _ _ _ f0 h
set_option maxHeartbeats 1000000 in
theorem mf_X12_is_s9_l39 {Q Q' : Int → St → Prop} {σ0 : St} (hq : ∀ (r : Int) (σ1 : St), Q r σ1 → Fr S_X12_is_s9 σ0 σ1 → Q' r σ1) : ∀ (n : Nat) (x2 : Int) (x3 : Int) (σ : St), Fr S_X12_is_s9 σ0 σ → wp_X12_is_s9_l39 Q n x2 x3 σ → wp_X12_is_s9_l39 Q' n x2 x3 σ := by
  intro n
  induction n with
  | zero => intro _ _ _ _ h; exact h.elim
  | succ n ih =>
    intro x2 x3 σ f0 h
    unfold wp_X12_is_s9_l39 at h ⊢
    refine ⟨fun hc => ?_, fun hc => ?_⟩
    · replace h := h.1 hc
      exact ⟨h.1, hq _ _ h.2 f0⟩
    · replace h := h.2 hc
      refine ⟨fun hc => ?_, fun hc => ?_⟩
      · replace h := h.1 hc
        exact ⟨h.1, hq _ _ h.2 f0⟩
      · replace h := h.2 hc
        refine ⟨h.1, ?_⟩; replace h := h.2
        refine ⟨h.1, ?_⟩; replace h := h.2
        refine ⟨fun hc => ?_, fun hc => ?_⟩
        · replace h := h.1 hc
          exact mf_X12_is_s9_b75 hq ih f0 h
        · replace h := h.2 hc
          exact mf_X12_is_s9_b75 hq ih f0 h
set_option maxHeartbeats 1000000 in
theorem mf_X12_is_s9_b36 {Q Q' : Int → St → Prop} {σ0 : St} (hq : ∀ (r : Int) (σ1 : St), Q r σ1 → Fr S_X12_is_s9 σ0 σ1 → Q' r σ1) {s0 : Int} {σ : St} (f0 : Fr S_X12_is_s9 σ0 σ) (h : wp_X12_is_s9_b36 Q s0 σ) : wp_X12_is_s9_b36 Q' s0 σ := by
  unfold wp_X12_is_s9_b36 at h ⊢
  exact mf_X12_is_s9_l39 hq bigN _ _ _ f0 h
set_option maxHeartbeats 1000000 in
theorem mf_X12_is_s9_b35 {Q Q' : Int → St → Prop} {σ0 : St} (hq : ∀ (r : Int) (σ1 : St), Q r σ1 → Fr S_X12_is_s9 σ0 σ1 → Q' r σ1) {σ : St} (f0 : Fr S_X12_is_s9 σ0 σ) (h : wp_X12_is_s9_b35 Q  σ) : wp_X12_is_s9_b35 Q'  σ := by
  unfold wp_X12_is_s9_b35 at h ⊢
  exact mf_X12_is_s9_b36 hq f0 h
set_option maxHeartbeats 1000000 in
theorem mf_X12_is_s9 {Q Q' : Int → St → Prop} {σ0 : St} (hq : ∀ (r : Int) (σ1 : St), Q r σ1 → Fr S_X12_is_s9 σ0 σ1 → Q' r σ1) {σ : St} (f0 : Fr S_X12_is_s9 σ0 σ) (h : wp_X12_is_s9  σ Q) : wp_X12_is_s9  σ Q' := by
  unfold wp_X12_is_s9 at h ⊢
  refine mf_X12_good (fun r1 σ2 h gσ2 => ?_) Fr.rf h
  have fσ2 : Fr S_X12_is_s9 σ0 σ2 := f0.tr gσ2 (mkS_sub (by decide) (by decide))
  refine ⟨fun hc => ?_, fun hc => ?_⟩
  · replace h := h.1 hc
    exact mf_X12_is_s9_b35 hq fσ2 h
  · replace h := h.2 hc
    refine ⟨fun hc => ?_, fun hc => ?_⟩
    · replace h := h.1 hc
      exact mf_X12_is_s9_b35 hq fσ2 h
    · replace h := h.2 hc
      refine ⟨fun hc => ?_, fun hc => ?_⟩
      · replace h := h.1 hc
        exact mf_X12_is_s9_b35 hq fσ2 h
      · replace h := h.2 hc
        exact mf_X12_is_s9_b36 hq fσ2 h
set_option maxHeartbeats 1000000 in
theorem mf_X12_takesWord_s9_b13 {Q Q' : Int → St → Prop} {σ0 : St} (hq : ∀ (r : Int) (σ1 : St), Q r σ1 → Fr S_X12_takesWord_s9 σ0 σ1 → Q' r σ1) {σ : St} (f0 : Fr S_X12_takesWord_s9 σ0 σ) (h : wp_X12_takesWord_s9_b13 Q  σ) : wp_X12_takesWord_s9_b13 Q'  σ := by
  unfold wp_X12_takesWord_s9_b13 at h ⊢
  refine mf_X12_good (fun r5 σ6 h gσ6 => ?_) Fr.rf h
  have fσ6 : Fr S_X12_takesWord_s9 σ0 σ6 := f0.tr gσ6 (mkS_sub (by decide) (by decide))
  refine ⟨fun hc => ?_, fun hc => ?_⟩
  · replace h := h.1 hc
    exact hq _ _ h fσ6
  · replace h := h.2 hc
    refine mf_X12_advance (fun r7 σ8 h gσ8 => ?_) Fr.rf h
    have fσ8 : Fr S_X12_takesWord_s9 σ0 σ8 := fσ6.tr gσ8 (mkS_sub (by decide) (by decide))
    exact hq _ _ h fσ8
set_option maxHeartbeats 1000000 in
theorem mf_X12_takesWord_s9 {Q Q' : Int → St → Prop} {σ0 : St} (hq : ∀ (r : Int) (σ1 : St), Q r σ1 → Fr S_X12_takesWord_s9 σ0 σ1 → Q' r σ1) {σ : St} (f0 : Fr S_X12_takesWord_s9 σ0 σ) (h : wp_X12_takesWord_s9  σ Q) : wp_X12_takesWord_s9  σ Q' := by
  unfold wp_X12_takesWord_s9 at h ⊢
  refine mf_X12_is_s9 (fun r1 σ2 h gσ2 => ?_) Fr.rf h
  have fσ2 : Fr S_X12_takesWord_s9 σ0 σ2 := f0.tr gσ2 (mkS_sub (by decide) (by decide))
  refine ⟨fun hc => ?_, fun hc => ?_⟩
  · replace h := h.1 hc
    exact mf_X12_takesWord_s9_b13 hq fσ2 h
  · replace h := h.2 hc
    refine mf_X12_errs (fun r3 σ4 h gσ4 => ?_) Fr.rf h
    have fσ4 : Fr S_X12_takesWord_s9 σ0 σ4 := fσ2.tr gσ4 (mkS_sub (by decide) (by decide))
    exact mf_X12_takesWord_s9_b13 hq fσ4 h
set_option maxHeartbeats 1000000 in
theorem mf_X12_is_s10_b75 {Q Q' : Int → St → Prop} {σ0 : St} (hq : ∀ (r : Int) (σ1 : St), Q r σ1 → Fr S_X12_is_s10 σ0 σ1 → Q' r σ1) {K39 K39' : Int → Int → St → Prop} (hK39 : ∀ (x2 : Int) (x3 : Int) (σ : St), Fr S_X12_is_s10 σ0 σ → K39 x2 x3 σ → K39' x2 x3 σ) {x3 s0 : Int} {σ : St} (f0 : Fr S_X12_is_s10 σ0 σ) (h : wp_X12_is_s10_b75 Q K39 x3 s0 σ) : wp_X12_is_s10_b75 Q' K39' x3 s0 σ := by
  unfold wp_X12_is_s10_b75 at h ⊢
  intro v3 ev3; replace h := h v3 ev3
  exact hK39 _ _ _ f0 h
set_option maxHeartbeats 1000000 in
theorem mf_X12_is_s10_l39 {Q Q' : Int → St → Prop} {σ0 : St} (hq : ∀ (r : Int) (σ1 : St), Q r σ1 → Fr S_X12_is_s10 σ0 σ1 → Q' r σ1) : ∀ (n : Nat) (x2 : Int) (x3 : Int) (σ : St), Fr S_X12_is_s10 σ0 σ → wp_X12_is_s10_l39 Q n x2 x3 σ → wp_X12_is_s10_l39 Q' n x2 x3 σ := by
  intro n
  induction n with
  | zero => intro _ _ _ _ h; exact h.elim
  | succ n ih =>
    intro x2 x3 σ f0 h
    unfold wp_X12_is_s10_l39 at h ⊢
    refine ⟨fun hc => ?_, fun hc => ?_⟩
    · replace h := h.1 hc
      exact ⟨h.1, hq _ _ h.2 f0⟩
    · replace h := h.2 hc
      refine ⟨fun hc => ?_, fun hc => ?_⟩
      · replace h := h.1 hc
        exact ⟨h.1, hq _ _ h.2 f0⟩
      · replace h := h.2 hc
        refine ⟨h.1, ?_⟩; replace h := h.2
        refine ⟨h.1, ?_⟩; replace h := h.2
        refine ⟨fun hc => ?_, fun hc => ?_⟩
        · replace h := h.1 hc
          exact mf_X12_is_s10_b75 hq ih f0 h
        · replace h := h.2 hc
          exact mf_X12_is_s10_b75 hq ih f0 h
set_option maxHeartbeats 1000000 in
theorem mf_X12_is_s10_b36 {Q Q' : Int → St → Prop} {σ0 : St} (hq : ∀ (r : Int) (σ1 : St), Q r σ1 → Fr S_X12_is_s10 σ0 σ1 → Q' r σ1) {s0 : Int} {σ : St} (f0 : Fr S_X12_is_s10 σ0 σ) (h : wp_X12_is_s10_b36 Q s0 σ) : wp_X12_is_s10_b36 Q' s0 σ := by
  unfold wp_X12_is_s10_b36 at h ⊢
  exact mf_X12_is_s10_l39 hq bigN _ _ _ f0 h
set_option maxHeartbeats 1000000 in
theorem mf_X12_is_s10_b35 {Q Q' : Int → St → Prop} {σ0 : St} (hq : ∀ (r : Int) (σ1 : St), Q r σ1 → Fr S_X12_is_s10 σ0 σ1 → Q' r σ1) {σ : St} (f0 : Fr S_X12_is_s10 σ0 σ) (h : wp_X12_is_s10_b35 Q  σ) : wp_X12_is_s10_b35 Q'  σ := by
  unfold wp_X12_is_s10_b35 at h ⊢
  exact mf_X12_is_s10_b36 hq f0 h
set_option maxHeartbeats 1000000 in
theorem mf_X12_is_s10 {Q Q' : Int → St → Prop} {σ0 : St} (hq : ∀ (r : Int) (σ1 : St), Q r σ1 → Fr S_X12_is_s10 σ0 σ1 → Q' r σ1) {σ : St} (f0 : Fr S_X12_is_s10 σ0 σ) (h : wp_X12_is_s10  σ Q) : wp_X12_is_s10  σ Q' := by
  unfold wp_X12_is_s10 at h ⊢
  refine mf_X12_good (fun r1 σ2 h gσ2 => ?_) Fr.rf h
  have fσ2 : Fr S_X12_is_s10 σ0 σ2 := f0.tr gσ2 (mkS_sub (by decide) (by decide))
  refine ⟨fun hc => ?_, fun hc => ?_⟩
  · replace h := h.1 hc
    exact mf_X12_is_s10_b35 hq fσ2 h
  · replace h := h.2 hc
    refine ⟨fun hc => ?_, fun hc => ?_⟩
    · replace h := h.1 hc
      exact mf_X12_is_s10_b35 hq fσ2 h
    · replace h := h.2 hc
      refine ⟨fun hc => ?_, fun hc => ?_⟩
      · replace h := h.1 hc
        exact mf_X12_is_s10_b35 hq fσ2 h
      · replace h := h.2 hc
        exact mf_X12_is_s10_b36 hq fσ2 h
set_option maxHeartbeats 1000000 in
theorem mf_X12_takesWord_s10_b13 {Q Q' : Int → St → Prop} {σ0 : St} (hq : ∀ (r : Int) (σ1 : St), Q r σ1 → Fr S_X12_takesWord_s10 σ0 σ1 → Q' r σ1) {σ : St} (f0 : Fr S_X12_takesWord_s10 σ0 σ) (h : wp_X12_takesWord_s10_b13 Q  σ) : wp_X12_takesWord_s10_b13 Q'  σ := by
  unfold wp_X12_takesWord_s10_b13 at h ⊢
  refine mf_X12_good (fun r5 σ6 h gσ6 => ?_) Fr.rf h
  have fσ6 : Fr S_X12_takesWord_s10 σ0 σ6 := f0.tr gσ6 (mkS_sub (by decide) (by decide))
  refine ⟨fun hc => ?_, fun hc => ?_⟩
  · replace h := h.1 hc
    exact hq _ _ h fσ6
  · replace h := h.2 hc
    refine mf_X12_advance (fun r7 σ8 h gσ8 => ?_) Fr.rf h
    have fσ8 : Fr S_X12_takesWord_s10 σ0 σ8 := fσ6.tr gσ8 (mkS_sub (by decide) (by decide))
    exact hq _ _ h fσ8
set_option maxHeartbeats 1000000 in
theorem mf_X12_takesWord_s10 {Q Q' : Int → St → Prop} {σ0 : St} (hq : ∀ (r : Int) (σ1 : St), Q r σ1 → Fr S_X12_takesWord_s10 σ0 σ1 → Q' r σ1) {σ : St} (f0 : Fr S_X12_takesWord_s10 σ0 σ) (h : wp_X12_takesWord_s10  σ Q) : wp_X12_takesWord_s10  σ Q' := by
  unfold wp_X12_takesWord_s10 at h ⊢
  refine mf_X12_is_s10 (fun r1 σ2 h gσ2 => ?_) Fr.rf h
  have fσ2 : Fr S_X12_takesWord_s10 σ0 σ2 := f0.tr gσ2 (mkS_sub (by decide) (by decide))
  refine ⟨fun hc => ?_, fun hc => ?_⟩
  · replace h := h.1 hc
    exact mf_X12_takesWord_s10_b13 hq fσ2 h
  · replace h := h.2 hc
    refine mf_X12_errs (fun r3 σ4 h gσ4 => ?_) Fr.rf h
    have fσ4 : Fr S_X12_takesWord_s10 σ0 σ4 := fσ2.tr gσ4 (mkS_sub (by decide) (by decide))
    exact mf_X12_takesWord_s10_b13 hq fσ4 h
set_option maxHeartbeats 1000000 in
theorem mf_X12_is_s11_b75 {Q Q' : Int → St → Prop} {σ0 : St} (hq : ∀ (r : Int) (σ1 : St), Q r σ1 → Fr S_X12_is_s11 σ0 σ1 → Q' r σ1) {K39 K39' : Int → Int → St → Prop} (hK39 : ∀ (x2 : Int) (x3 : Int) (σ : St), Fr S_X12_is_s11 σ0 σ → K39 x2 x3 σ → K39' x2 x3 σ) {x3 s0 : Int} {σ : St} (f0 : Fr S_X12_is_s11 σ0 σ) (h : wp_X12_is_s11_b75 Q K39 x3 s0 σ) : wp_X12_is_s11_b75 Q' K39' x3 s0 σ := by
  unfold wp_X12_is_s11_b75 at h ⊢
  intro v3 ev3; replace h := h v3 ev3
  exact hK39 _ _ _ f0 h
set_option maxHeartbeats 1000000 in
theorem mf_X12_is_s11_l39 {Q Q' : Int → St → Prop} {σ0 : St} (hq : ∀ (r : Int) (σ1 : St), Q r σ1 → Fr S_X12_is_s11 σ0 σ1 → Q' r σ1) : ∀ (n : Nat) (x2 : Int) (x3 : Int) (σ : St), Fr S_X12_is_s11 σ0 σ → wp_X12_is_s11_l39 Q n x2 x3 σ → wp_X12_is_s11_l39 Q' n x2 x3 σ := by
  intro n
  induction n with
  | zero => intro _ _ _ _ h; exact h.elim
  | succ n ih =>
    intro x2 x3 σ f0 h
    unfold wp_X12_is_s11_l39 at h ⊢
    refine ⟨fun hc => ?_, fun hc => ?_⟩
    · replace h := h.1 hc
      exact ⟨h.1, hq _ _ h.2 f0⟩
    · replace h := h.2 hc
      refine ⟨fun hc => ?_, fun hc => ?_⟩
      · replace h := h.1 hc
        exact ⟨h.1, hq _ _ h.2 f0⟩
      · replace h := h.2 hc
        refine ⟨h.1, ?_⟩; replace h := h.2
        refine ⟨h.1, ?_⟩; replace h := h.2
        refine ⟨fun hc => ?_, fun hc => ?_⟩
        · replace h := h.1 hc
          exact mf_X12_is_s11_b75 hq ih f0 h
        · replace h := h.2 hc
          exact mf_X12_is_s11_b75 hq ih f0 h
set_option maxHeartbeats 1000000 in
theorem mf_X12_is_s11_b36 {Q Q' : Int → St → Prop} {σ0 : St} (hq : ∀ (r : Int) (σ1 : St), Q r σ1 → Fr S_X12_is_s11 σ0 σ1 → Q' r σ1) {s0 : Int} {σ : St} (f0 : Fr S_X12_is_s11 σ0 σ) (h : wp_X12_is_s11_b36 Q s0 σ) : wp_X12_is_s11_b36 Q' s0 σ := by
  unfold wp_X12_is_s11_b36 at h ⊢
  exact mf_X12_is_s11_l39 hq bigN _ _ _ f0 h
set_option maxHeartbeats 1000000 in
theorem mf_X12_is_s11_b35 {Q Q' : Int → St → Prop} {σ0 : St} (hq : ∀ (r : Int) (σ1 : St), Q r σ1 → Fr S_X12_is_s11 σ0 σ1 → Q' r σ1) {σ : St} (f0 : Fr S_X12_is_s11 σ0 σ) (h : wp_X12_is_s11_b35 Q  σ) : wp_X12_is_s11_b35 Q'  σ := by
  unfold wp_X12_is_s11_b35 at h ⊢
  exact mf_X12_is_s11_b36 hq f0 h
set_option maxHeartbeats 1000000 in
theorem mf_X12_is_s11 {Q Q' : Int → St → Prop} {σ0 : St} (hq : ∀ (r : Int) (σ1 : St), Q r σ1 → Fr S_X12_is_s11 σ0 σ1 → Q' r σ1) {σ : St} (f0 : Fr S_X12_is_s11 σ0 σ) (h : wp_X12_is_s11  σ Q) : wp_X12_is_s11  σ Q' := by
  unfold wp_X12_is_s11 at h ⊢
  refine mf_X12_good (fun r1 σ2 h gσ2 => ?_) Fr.rf h
  have fσ2 : Fr S_X12_is_s11 σ0 σ2 := f0.tr gσ2 (mkS_sub (by decide) (by decide))
  refine ⟨fun hc => ?_, fun hc => ?_⟩
  · replace h := h.1 hc
    exact mf_X12_is_s11_b35 hq fσ2 h
  · replace h := h.2 hc
    refine ⟨fun hc => ?_, fun hc => ?_⟩
    · replace h := h.1 hc
      exact mf_X12_is_s11_b35 hq fσ2 h
    · replace h := h.2 hc
      refine ⟨fun hc => ?_, fun hc => ?_⟩
      · replace h := h.1 hc
        exact mf_X12_is_s11_b35 hq fσ2 h
      · replace h := h.2 hc
        exact mf_X12_is_s11_b36 hq fσ2 h
set_option maxHeartbeats 1000000 in
theorem mf_X12_takesWord_s11_b13 {Q Q' : Int → St → Prop} {σ0 : St} (hq : ∀ (r : Int) (σ1 : St), Q r σ1 → Fr S_X12_takesWord_s11 σ0 σ1 → Q' r σ1) {σ : St} (f0 : Fr S_X12_takesWord_s11 σ0 σ) (h : wp_X12_takesWord_s11_b13 Q  σ) : wp_X12_takesWord_s11_b13 Q'  σ := by
  unfold wp_X12_takesWord_s11_b13 at h ⊢
  refine mf_X12_good (fun r5 σ6 h gσ6 => ?_) Fr.rf h
  have fσ6 : Fr S_X12_takesWord_s11 σ0 σ6 := f0.tr gσ6 (mkS_sub (by decide) (by decide))
  refine ⟨fun hc => ?_, fun hc => ?_⟩
  · replace h := h.1 hc
    exact hq _ _ h fσ6
  · replace h := h.2 hc
    refine mf_X12_advance (fun r7 σ8 h gσ8 => ?_) Fr.rf h
    have fσ8 : Fr S_X12_takesWord_s11 σ0 σ8 := fσ6.tr gσ8 (mkS_sub (by decide) (by decide))
    exact hq _ _ h fσ8
set_option maxHeartbeats 1000000 in
theorem mf_X12_takesWord_s11 {Q Q' : Int → St → Prop} {σ0 : St} (hq : ∀ (r : Int) (σ1 : St), Q r σ1 → Fr S_X12_takesWord_s11 σ0 σ1 → Q' r σ1) {σ : St} (f0 : Fr S_X12_takesWord_s11 σ0 σ) (h : wp_X12_takesWord_s11  σ Q) : wp_X12_takesWord_s11  σ Q' := by
  unfold wp_X12_takesWord_s11 at h ⊢
  refine mf_X12_is_s11 (fun r1 σ2 h gσ2 => ?_) Fr.rf h
  have fσ2 : Fr S_X12_takesWord_s11 σ0 σ2 := f0.tr gσ2 (mkS_sub (by decide) (by decide))
  refine ⟨fun hc => ?_, fun hc => ?_⟩
  · replace h := h.1 hc
    exact mf_X12_takesWord_s11_b13 hq fσ2 h
  · replace h := h.2 hc
    refine mf_X12_errs (fun r3 σ4 h gσ4 => ?_) Fr.rf h
    have fσ4 : Fr S_X12_takesWord_s11 σ0 σ4 := fσ2.tr gσ4 (mkS_sub (by decide) (by decide))
    exact mf_X12_takesWord_s11_b13 hq fσ4 h
set_option maxHeartbeats 1000000 in
theorem mf_X12_is_s12_b75 {Q Q' : Int → St → Prop} {σ0 : St} (hq : ∀ (r : Int) (σ1 : St), Q r σ1 → Fr S_X12_is_s12 σ0 σ1 → Q' r σ1) {K39 K39' : Int → Int → St → Prop} (hK39 : ∀ (x2 : Int) (x3 : Int) (σ : St), Fr S_X12_is_s12 σ0 σ → K39 x2 x3 σ → K39' x2 x3 σ) {x3 s0 : Int} {σ : St} (f0 : Fr S_X12_is_s12 σ0 σ) (h : wp_X12_is_s12_b75 Q K39 x3 s0 σ) : wp_X12_is_s12_b75 Q' K39' x3 s0 σ := by
  unfold wp_X12_is_s12_b75 at h ⊢
  intro v3 ev3; replace h := h v3 ev3
  exact hK39 _ _ _ f0 h
set_option maxHeartbeats 1000000 in
theorem mf_X12_is_s12_l39 {Q Q' : Int → St → Prop} {σ0 : St} (hq : ∀ (r : Int) (σ1 : St), Q r σ1 → Fr S_X12_is_s12 σ0 σ1 → Q' r σ1) : ∀ (n : Nat) (x2 : Int) (x3 : Int) (σ : St), Fr S_X12_is_s12 σ0 σ → wp_X12_is_s12_l39 Q n x2 x3 σ → wp_X12_is_s12_l39 Q' n x2 x3 σ := by
  intro n
  induction n with
  | zero => intro _ _ _ _ h; exact h.elim
  | succ n ih =>
    intro x2 x3 σ f0 h
    unfold wp_X12_is_s12_l39 at h ⊢
    refine ⟨fun hc => ?_, fun hc => ?_⟩
    · replace h := h.1 hc
      exact ⟨h.1, hq _ _ h.2 f0⟩
    · replace h := h.2 hc
      refine ⟨fun hc => ?_, fun hc => ?_⟩
      · replace h := h.1 hc
        exact ⟨h.1, hq _ _ h.2 f0⟩
      · replace h := h.2 hc
        refine ⟨h.1, ?_⟩; replace h := h.2
        refine ⟨h.1, ?_⟩; replace h := h.2
        refine ⟨fun hc => ?_, fun hc => ?_⟩
        · replace h := h.1 hc
          exact mf_X12_is_s12_b75 hq ih f0 h
        · replace h := h.2 hc
          exact mf_X12_is_s12_b75 hq ih f0 h
set_option maxHeartbeats 1000000 in
theorem mf_X12_is_s12_b36 {Q Q' : Int → St → Prop} {σ0 : St} (hq : ∀ (r : Int) (σ1 : St), Q r σ1 → Fr S_X12_is_s12 σ0 σ1 → Q' r σ1) {s0 : Int} {σ : St} (f0 : Fr S_X12_is_s12 σ0 σ) (h : wp_X12_is_s12_b36 Q s0 σ) : wp_X12_is_s12_b36 Q' s0 σ := by
  unfold wp_X12_is_s12_b36 at h ⊢
  exact mf_X12_is_s12_l39 hq bigN _ _ _ f0 h
set_option maxHeartbeats 1000000 in
theorem mf_X12_is_s12_b35 {Q Q' : Int → St → Prop} {σ0 : St} (hq : ∀ (r : Int) (σ1 : St), Q r σ1 → Fr S_X12_is_s12 σ0 σ1 → Q' r σ1) {σ : St} (f0 : Fr S_X12_is_s12 σ0 σ) (h : wp_X12_is_s12_b35 Q  σ) : wp_X12_is_s12_b35 Q'  σ := by
  unfold wp_X12_is_s12_b35 at h ⊢
  exact mf_X12_is_s12_b36 hq f0 h
set_option maxHeartbeats 1000000 in
theorem mf_X12_is_s12 {Q Q' : Int → St → Prop} {σ0 : St} (hq : ∀ (r : Int) (σ1 : St), Q r σ1 → Fr S_X12_is_s12 σ0 σ1 → Q' r σ1) {σ : St} (f0 : Fr S_X12_is_s12 σ0 σ) (h : wp_X12_is_s12  σ Q) : wp_X12_is_s12  σ Q' := by
  unfold wp_X12_is_s12 at h ⊢
  refine mf_X12_good (fun r1 σ2 h gσ2 => ?_) Fr.rf h
  have fσ2 : Fr S_X12_is_s12 σ0 σ2 := f0.tr gσ2 (mkS_sub (by decide) (by decide))
  refine ⟨fun hc => ?_, fun hc => ?_⟩
  · replace h := h.1 hc
    exact mf_X12_is_s12_b35 hq fσ2 h
  · replace h := h.2 hc
    refine ⟨fun hc => ?_, fun hc => ?_⟩
    · replace h := h.1 hc
      exact mf_X12_is_s12_b35 hq fσ2 h
    · replace h := h.2 hc
      refine ⟨fun hc => ?_, fun hc => ?_⟩
      · replace h := h.1 hc
        exact mf_X12_is_s12_b35 hq fσ2 h
      · replace h := h.2 hc
        exact mf_X12_is_s12_b36 hq fσ2 h
set_option maxHeartbeats 1000000 in
theorem mf_X12_takesWord_s12_b13 {Q Q' : Int → St → Prop} {σ0 : St} (hq : ∀ (r : Int) (σ1 : St), Q r σ1 → Fr S_X12_takesWord_s12 σ0 σ1 → Q' r σ1) {σ : St} (f0 : Fr S_X12_takesWord_s12 σ0 σ) (h : wp_X12_takesWord_s12_b13 Q  σ) : wp_X12_takesWord_s12_b13 Q'  σ := by
  unfold wp_X12_takesWord_s12_b13 at h ⊢
  refine mf_X12_good (fun r5 σ6 h gσ6 => ?_) Fr.rf h
  have fσ6 : Fr S_X12_takesWord_s12 σ0 σ6 := f0.tr gσ6 (mkS_sub (by decide) (by decide))
  refine ⟨fun hc => ?_, fun hc => ?_⟩
  · replace h := h.1 hc
    exact hq _ _ h fσ6
  · replace h := h.2 hc
    refine mf_X12_advance (fun r7 σ8 h gσ8 => ?_) Fr.rf h
    have fσ8 : Fr S_X12_takesWord_s12 σ0 σ8 := fσ6.tr gσ8 (mkS_sub (by decide) (by decide))
    exact hq _ _ h fσ8
set_option maxHeartbeats 1000000 in
theorem mf_X12_takesWord_s12 {Q Q' : Int → St → Prop} {σ0 : St} (hq : ∀ (r : Int) (σ1 : St), Q r σ1 → Fr S_X12_takesWord_s12 σ0 σ1 → Q' r σ1) {σ : St} (f0 : Fr S_X12_takesWord_s12 σ0 σ) (h : wp_X12_takesWord_s12  σ Q) : wp_X12_takesWord_s12  σ Q' := by
  unfold wp_X12_takesWord_s12 at h ⊢
  refine mf_X12_is_s12 (fun r1 σ2 h gσ2 => ?_) Fr.rf h
  have fσ2 : Fr S_X12_takesWord_s12 σ0 σ2 := f0.tr gσ2 (mkS_sub (by decide) (by decide))
  refine ⟨fun hc => ?_, fun hc => ?_⟩
  · replace h := h.1 hc
    exact mf_X12_takesWord_s12_b13 hq fσ2 h
  · replace h := h.2 hc
    refine mf_X12_errs (fun r3 σ4 h gσ4 => ?_) Fr.rf h
    have fσ4 : Fr S_X12_takesWord_s12 σ0 σ4 := fσ2.tr gσ4 (mkS_sub (by decide) (by decide))
    exact mf_X12_takesWord_s12_b13 hq fσ4 h
set_option maxHeartbeats 1000000 in
theorem mf_X12_readTable_l127 {Q Q' : Int → St → Prop} {σ0 : St} (hq : ∀ (r : Int) (σ1 : St), Q r σ1 → Fr S_X12_readTable σ0 σ1 → Q' r σ1) : ∀ (n : Nat) (x1 : Int) (σ : St), Fr S_X12_readTable σ0 σ → wp_X12_readTable_l127 Q n x1 σ → wp_X12_readTable_l127 Q' n x1 σ := by
  intro n
  induction n with
  | zero => intro _ _ _ h; exact h.elim
  | succ n ih =>
    intro x1 σ f0 h
    unfold wp_X12_readTable_l127 at h ⊢
    refine ⟨fun hc => ?_, fun hc => ?_⟩
    · replace h := h.1 hc
      exact hq _ _ h f0
    · replace h := h.2 hc
      refine mf_X12_takes (fun r24 σ25 h gσ25 => ?_) Fr.rf h
      have fσ25 : Fr S_X12_readTable σ0 σ25 := f0.tr gσ25 (mkS_sub (by decide) (by decide))
      refine ⟨h.1, fun σ26 eσ26 => ?_⟩; replace h := h.2 σ26 eσ26; have fσ26 : Fr S_X12_readTable σ0 σ26 := by rw [eσ26]; exact fσ25.up rfl
      intro v27 ev27; replace h := h v27 ev27
      exact ih _ _ fσ26 h
set_option maxHeartbeats 1000000 in
theorem mf_X12_readTable_l74 {Q Q' : Int → St → Prop} {σ0 : St} (hq : ∀ (r : Int) (σ1 : St), Q r σ1 → Fr S_X12_readTable σ0 σ1 → Q' r σ1) : ∀ (n : Nat) (x1 : Int) (σ : St), Fr S_X12_readTable σ0 σ → wp_X12_readTable_l74 Q n x1 σ → wp_X12_readTable_l74 Q' n x1 σ := by
  intro n
  induction n with
  | zero => intro _ _ _ h; exact h.elim
  | succ n ih =>
    intro x1 σ f0 h
    unfold wp_X12_readTable_l74 at h ⊢
    refine ⟨fun hc => ?_, fun hc => ?_⟩
    · replace h := h.1 hc
      refine mf_X12_takesWord_s12 (fun r18 σ19 h gσ19 => ?_) Fr.rf h
      have fσ19 : Fr S_X12_readTable σ0 σ19 := f0.tr gσ19 (mkS_sub (by decide) (by decide))
      exact mf_X12_readTable_l127 hq bigN _ _ fσ19 h
    · replace h := h.2 hc
      refine mf_X12_takes (fun r20 σ21 h gσ21 => ?_) Fr.rf h
      have fσ21 : Fr S_X12_readTable σ0 σ21 := f0.tr gσ21 (mkS_sub (by decide) (by decide))
      refine ⟨h.1, fun σ22 eσ22 => ?_⟩; replace h := h.2 σ22 eσ22; have fσ22 : Fr S_X12_readTable σ0 σ22 := by rw [eσ22]; exact fσ21.up rfl
      intro v23 ev23; replace h := h v23 ev23
      exact ih _ _ fσ22 h
set_option maxHeartbeats 1000000 in
theorem mf_X12_readTable {Q Q' : Int → St → Prop} {σ0 : St} (hq : ∀ (r : Int) (σ1 : St), Q r σ1 → Fr S_X12_readTable σ0 σ1 → Q' r σ1) {σ : St} (f0 : Fr S_X12_readTable σ0 σ) (h : wp_X12_readTable  σ Q) : wp_X12_readTable  σ Q' := by
  unfold wp_X12_readTable at h ⊢
  refine mf_X12_advance (fun r1 σ2 h gσ2 => ?_) Fr.rf h
  have fσ2 : Fr S_X12_readTable σ0 σ2 := f0.tr gσ2 (mkS_sub (by decide) (by decide))
  refine mf_X12_takes (fun r3 σ4 h gσ4 => ?_) Fr.rf h
  have fσ4 : Fr S_X12_readTable σ0 σ4 := fσ2.tr gσ4 (mkS_sub (by decide) (by decide))
  intro σ5 eσ5; replace h := h σ5 eσ5; have fσ5 : Fr S_X12_readTable σ0 σ5 := by rw [eσ5]; exact fσ4.up rfl
  refine mf_X12_takesWord_s9 (fun r6 σ7 h gσ7 => ?_) Fr.rf h
  have fσ7 : Fr S_X12_readTable σ0 σ7 := fσ5.tr gσ7 (mkS_sub (by decide) (by decide))
  refine mf_X12_takes (fun r8 σ9 h gσ9 => ?_) Fr.rf h
  have fσ9 : Fr S_X12_readTable σ0 σ9 := fσ7.tr gσ9 (mkS_sub (by decide) (by decide))
  intro σ10 eσ10; replace h := h σ10 eσ10; have fσ10 : Fr S_X12_readTable σ0 σ10 := by rw [eσ10]; exact fσ9.up rfl
  refine mf_X12_takesWord_s10 (fun r11 σ12 h gσ12 => ?_) Fr.rf h
  have fσ12 : Fr S_X12_readTable σ0 σ12 := fσ10.tr gσ12 (mkS_sub (by decide) (by decide))
  refine mf_X12_takes (fun r13 σ14 h gσ14 => ?_) Fr.rf h
  have fσ14 : Fr S_X12_readTable σ0 σ14 := fσ12.tr gσ14 (mkS_sub (by decide) (by decide))
  intro σ15 eσ15; replace h := h σ15 eσ15; have fσ15 : Fr S_X12_readTable σ0 σ15 := by rw [eσ15]; exact fσ14.up rfl
  refine mf_X12_takesWord_s11 (fun r16 σ17 h gσ17 => ?_) Fr.rf h
  have fσ17 : Fr S_X12_readTable σ0 σ17 := fσ15.tr gσ17 (mkS_sub (by decide) (by decide))
  exact mf_X12_readTable_l74 hq bigN _ _ fσ17 h
set_option maxHeartbeats 1000000 in
theorem mf_X12_is_s13_b75 {Q Q' : Int → St → Prop} {σ0 : St} (hq : ∀ (r : Int) (σ1 : St), Q r σ1 → Fr S_X12_is_s13 σ0 σ1 → Q' r σ1) {K39 K39' : Int → Int → St → Prop} (hK39 : ∀ (x2 : Int) (x3 : Int) (σ : St), Fr S_X12_is_s13 σ0 σ → K39 x2 x3 σ → K39' x2 x3 σ) {x3 s0 : Int} {σ : St} (f0 : Fr S_X12_is_s13 σ0 σ) (h : wp_X12_is_s13_b75 Q K39 x3 s0 σ) : wp_X12_is_s13_b75 Q' K39' x3 s0 σ := by
  unfold wp_X12_is_s13_b75 at h ⊢
  intro v3 ev3; replace h := h v3 ev3
  exact hK39 _ _ _ f0 h
set_option maxHeartbeats 1000000 in
theorem mf_X12_is_s13_l39 {Q Q' : Int → St → Prop} {σ0 : St} (hq : ∀ (r : Int) (σ1 : St), Q r σ1 → Fr S_X12_is_s13 σ0 σ1 → Q' r σ1) : ∀ (n : Nat) (x2 : Int) (x3 : Int) (σ : St), Fr S_X12_is_s13 σ0 σ → wp_X12_is_s13_l39 Q n x2 x3 σ → wp_X12_is_s13_l39 Q' n x2 x3 σ := by
  intro n
  induction n with
  | zero => intro _ _ _ _ h; exact h.elim
  | succ n ih =>
    intro x2 x3 σ f0 h
    unfold wp_X12_is_s13_l39 at h ⊢
    refine ⟨fun hc => ?_, fun hc => ?_⟩
    · replace h := h.1 hc
      exact ⟨h.1, hq _ _ h.2 f0⟩
    · replace h := h.2 hc
      refine ⟨fun hc => ?_, fun hc => ?_⟩
      · replace h := h.1 hc
        exact ⟨h.1, hq _ _ h.2 f0⟩
      · replace h := h.2 hc
        refine ⟨h.1, ?_⟩; replace h := h.2
        refine ⟨h.1, ?_⟩; replace h := h.2
        refine ⟨fun hc => ?_, fun hc => ?_⟩
        · replace h := h.1 hc
          exact mf_X12_is_s13_b75 hq ih f0 h
        · replace h := h.2 hc
          exact mf_X12_is_s13_b75 hq ih f0 h
set_option maxHeartbeats 1000000 in
theorem mf_X12_is_s13_b36 {Q Q' : Int → St → Prop} {σ0 : St} (hq : ∀ (r : Int) (σ1 : St), Q r σ1 → Fr S_X12_is_s13 σ0 σ1 → Q' r σ1) {s0 : Int} {σ : St} (f0 : Fr S_X12_is_s13 σ0 σ) (h : wp_X12_is_s13_b36 Q s0 σ) : wp_X12_is_s13_b36 Q' s0 σ := by
  unfold wp_X12_is_s13_b36 at h ⊢
  exact mf_X12_is_s13_l39 hq bigN _ _ _ f0 h
set_option maxHeartbeats 1000000 in
theorem mf_X12_is_s13_b35 {Q Q' : Int → St → Prop} {σ0 : St} (hq : ∀ (r : Int) (σ1 : St), Q r σ1 → Fr S_X12_is_s13 σ0 σ1 → Q' r σ1) {σ : St} (f0 : Fr S_X12_is_s13 σ0 σ) (h : wp_X12_is_s13_b35 Q  σ) : wp_X12_is_s13_b35 Q'  σ := by
  unfold wp_X12_is_s13_b35 at h ⊢
  exact mf_X12_is_s13_b36 hq f0 h
set_option maxHeartbeats 1000000 in
theorem mf_X12_is_s13 {Q Q' : Int → St → Prop} {σ0 : St} (hq : ∀ (r : Int) (σ1 : St), Q r σ1 → Fr S_X12_is_s13 σ0 σ1 → Q' r σ1) {σ : St} (f0 : Fr S_X12_is_s13 σ0 σ) (h : wp_X12_is_s13  σ Q) : wp_X12_is_s13  σ Q' := by
  unfold wp_X12_is_s13 at h ⊢
  refine mf_X12_good (fun r1 σ2 h gσ2 => ?_) Fr.rf h
  have fσ2 : Fr S_X12_is_s13 σ0 σ2 := f0.tr gσ2 (mkS_sub (by decide) (by decide))
  refine ⟨fun hc => ?_, fun hc => ?_⟩
  · replace h := h.1 hc
    exact mf_X12_is_s13_b35 hq fσ2 h
  · replace h := h.2 hc
    refine ⟨fun hc => ?_, fun hc => ?_⟩
    · replace h := h.1 hc
      exact mf_X12_is_s13_b35 hq fσ2 h
    · replace h := h.2 hc
      refine ⟨fun hc => ?_, fun hc => ?_⟩
      · replace h := h.1 hc
        exact mf_X12_is_s13_b35 hq fσ2 h
      · replace h := h.2 hc
        exact mf_X12_is_s13_b36 hq fσ2 h
set_option maxHeartbeats 1000000 in
theorem mf_X12_takesSign_b21 {Q Q' : Int → St → Prop} {σ0 : St} (hq : ∀ (r : Int) (σ1 : St), Q r σ1 → Fr S_X12_takesSign σ0 σ1 → Q' r σ1) {σ : St} (f0 : Fr S_X12_takesSign σ0 σ) (h : wp_X12_takesSign_b21 Q  σ) : wp_X12_takesSign_b21 Q'  σ := by
  unfold wp_X12_takesSign_b21 at h ⊢
  refine mf_X12_good (fun r3 σ4 h gσ4 => ?_) Fr.rf h
  have fσ4 : Fr S_X12_takesSign σ0 σ4 := f0.tr gσ4 (mkS_sub (by decide) (by decide))
  refine ⟨fun hc => ?_, fun hc => ?_⟩
  · replace h := h.1 hc
    exact hq _ _ h fσ4
  · replace h := h.2 hc
    refine mf_X12_advance (fun r5 σ6 h gσ6 => ?_) Fr.rf h
    have fσ6 : Fr S_X12_takesSign σ0 σ6 := fσ4.tr gσ6 (mkS_sub (by decide) (by decide))
    exact hq _ _ h fσ6
set_option maxHeartbeats 1000000 in
theorem mf_X12_takesSign_b16 {Q Q' : Int → St → Prop} {σ0 : St} (hq : ∀ (r : Int) (σ1 : St), Q r σ1 → Fr S_X12_takesSign σ0 σ1 → Q' r σ1) {σ : St} (f0 : Fr S_X12_takesSign σ0 σ) (h : wp_X12_takesSign_b16 Q  σ) : wp_X12_takesSign_b16 Q'  σ := by
  unfold wp_X12_takesSign_b16 at h ⊢
  refine mf_X12_errs (fun r1 σ2 h gσ2 => ?_) Fr.rf h
  have fσ2 : Fr S_X12_takesSign σ0 σ2 := f0.tr gσ2 (mkS_sub (by decide) (by decide))
  exact mf_X12_takesSign_b21 hq fσ2 h
set_option maxHeartbeats 1000000 in
theorem mf_X12_takesSign {Q Q' : Int → St → Prop} {σ0 : St} (hq : ∀ (r : Int) (σ1 : St), Q r σ1 → Fr S_X12_takesSign σ0 σ1 → Q' r σ1) {x1 : Int} {σ : St} (f0 : Fr S_X12_takesSign σ0 σ) (h : wp_X12_takesSign x1 σ Q) : wp_X12_takesSign x1 σ Q' := by
  unfold wp_X12_takesSign at h ⊢
  refine ⟨fun hc => ?_, fun hc => ?_⟩
  · replace h := h.1 hc
    exact mf_X12_takesSign_b16 hq f0 h
  · replace h := h.2 hc
    refine ⟨fun hc => ?_, fun hc => ?_⟩
    · replace h := h.1 hc
      exact mf_X12_takesSign_b21 hq f0 h
    · replace h := h.2 hc
      exact mf_X12_takesSign_b16 hq f0 h
set_option maxHeartbeats 1000000 in
theorem mf_X12_isPart_b36 {Q Q' : Int → St → Prop} {σ0 : St} (hq : ∀ (r : Int) (σ1 : St), Q r σ1 → Fr S_X12_isPart σ0 σ1 → Q' r σ1) {σ : St} (f0 : Fr S_X12_isPart σ0 σ) (h : wp_X12_isPart_b36 Q  σ) : wp_X12_isPart_b36 Q'  σ := by
  unfold wp_X12_isPart_b36 at h ⊢
  exact hq _ _ h f0
set_option maxHeartbeats 1000000 in
theorem mf_X12_isPart_b40 {Q Q' : Int → St → Prop} {σ0 : St} (hq : ∀ (r : Int) (σ1 : St), Q r σ1 → Fr S_X12_isPart σ0 σ1 → Q' r σ1) {σ : St} (f0 : Fr S_X12_isPart σ0 σ) (h : wp_X12_isPart_b40 Q  σ) : wp_X12_isPart_b40 Q'  σ := by
  unfold wp_X12_isPart_b40 at h ⊢
  exact hq _ _ h f0
set_option maxHeartbeats 1000000 in
theorem mf_X12_isPart {Q Q' : Int → St → Prop} {σ0 : St} (hq : ∀ (r : Int) (σ1 : St), Q r σ1 → Fr S_X12_isPart σ0 σ1 → Q' r σ1) {σ : St} (f0 : Fr S_X12_isPart σ0 σ) (h : wp_X12_isPart  σ Q) : wp_X12_isPart  σ Q' := by
  unfold wp_X12_isPart at h ⊢
  refine mf_X12_good (fun r1 σ2 h gσ2 => ?_) Fr.rf h
  have fσ2 : Fr S_X12_isPart σ0 σ2 := f0.tr gσ2 (mkS_sub (by decide) (by decide))
  refine ⟨fun hc => ?_, fun hc => ?_⟩
  · replace h := h.1 hc
    exact mf_X12_isPart_b40 hq fσ2 h
  · replace h := h.2 hc
    refine ⟨fun hc => ?_, fun hc => ?_⟩
    · replace h := h.1 hc
      exact mf_X12_isPart_b36 hq fσ2 h
    · replace h := h.2 hc
      refine ⟨fun hc => ?_, fun hc => ?_⟩
      · replace h := h.1 hc
        exact mf_X12_isPart_b40 hq fσ2 h
      · replace h := h.2 hc
        refine ⟨fun hc => ?_, fun hc => ?_⟩
        · replace h := h.1 hc
          exact mf_X12_isPart_b40 hq fσ2 h
        · replace h := h.2 hc
          exact mf_X12_isPart_b36 hq fσ2 h
set_option maxHeartbeats 1000000 in
theorem mf_X12_readPart_b51 {Q Q' : Int → St → Prop} {σ0 : St} (hq : ∀ (r : Int) (σ1 : St), Q r σ1 → Fr S_X12_readPart σ0 σ1 → Q' r σ1) {s0 : Int} {σ : St} (f0 : Fr S_X12_readPart σ0 σ) (h : wp_X12_readPart_b51 Q s0 σ) : wp_X12_readPart_b51 Q' s0 σ := by
  unfold wp_X12_readPart_b51 at h ⊢
  refine mf_X12_advance (fun r7 σ8 h gσ8 => ?_) Fr.rf h
  have fσ8 : Fr S_X12_readPart σ0 σ8 := f0.tr gσ8 (mkS_sub (by decide) (by decide))
  exact hq _ _ h fσ8
set_option maxHeartbeats 1000000 in
theorem mf_X12_readPart_b12 {Q Q' : Int → St → Prop} {σ0 : St} (hq : ∀ (r : Int) (σ1 : St), Q r σ1 → Fr S_X12_readPart σ0 σ1 → Q' r σ1) {σ : St} (f0 : Fr S_X12_readPart σ0 σ) (h : wp_X12_readPart_b12 Q  σ) : wp_X12_readPart_b12 Q'  σ := by
  unfold wp_X12_readPart_b12 at h ⊢
  refine mf_X12_good (fun r5 σ6 h gσ6 => ?_) Fr.rf h
  have fσ6 : Fr S_X12_readPart σ0 σ6 := f0.tr gσ6 (mkS_sub (by decide) (by decide))
  refine ⟨fun hc => ?_, fun hc => ?_⟩
  · replace h := h.1 hc
    refine ⟨fun hc => ?_, fun hc => ?_⟩
    · replace h := h.1 hc
      refine ⟨h.1, ?_⟩; replace h := h.2
      exact mf_X12_readPart_b51 hq fσ6 h
    · replace h := h.2 hc
      exact mf_X12_readPart_b51 hq fσ6 h
  · replace h := h.2 hc
    exact hq _ _ h fσ6
set_option maxHeartbeats 1000000 in
theorem mf_X12_readPart {Q Q' : Int → St → Prop} {σ0 : St} (hq : ∀ (r : Int) (σ1 : St), Q r σ1 → Fr S_X12_readPart σ0 σ1 → Q' r σ1) {σ : St} (f0 : Fr S_X12_readPart σ0 σ) (h : wp_X12_readPart  σ Q) : wp_X12_readPart  σ Q' := by
  unfold wp_X12_readPart at h ⊢
  refine mf_X12_isPart (fun r1 σ2 h gσ2 => ?_) Fr.rf h
  have fσ2 : Fr S_X12_readPart σ0 σ2 := f0.tr gσ2 (mkS_sub (by decide) (by decide))
  refine ⟨fun hc => ?_, fun hc => ?_⟩
  · replace h := h.1 hc
    exact mf_X12_readPart_b12 hq fσ2 h
  · replace h := h.2 hc
    refine mf_X12_errs (fun r3 σ4 h gσ4 => ?_) Fr.rf h
    have fσ4 : Fr S_X12_readPart σ0 σ4 := fσ2.tr gσ4 (mkS_sub (by decide) (by decide))
    exact mf_X12_readPart_b12 hq fσ4 h
set_option maxHeartbeats 1000000 in
theorem mf_X12_is_s14_b75 {Q Q' : Int → St → Prop} {σ0 : St} (hq : ∀ (r : Int) (σ1 : St), Q r σ1 → Fr S_X12_is_s14 σ0 σ1 → Q' r σ1) {K39 K39' : Int → Int → St → Prop} (hK39 : ∀ (x2 : Int) (x3 : Int) (σ : St), Fr S_X12_is_s14 σ0 σ → K39 x2 x3 σ → K39' x2 x3 σ) {x3 s0 : Int} {σ : St} (f0 : Fr S_X12_is_s14 σ0 σ) (h : wp_X12_is_s14_b75 Q K39 x3 s0 σ) : wp_X12_is_s14_b75 Q' K39' x3 s0 σ := by
  unfold wp_X12_is_s14_b75 at h ⊢
  intro v3 ev3; replace h := h v3 ev3
  exact hK39 _ _ _ f0 h
set_option maxHeartbeats 1000000 in
theorem mf_X12_is_s14_l39 {Q Q' : Int → St → Prop} {σ0 : St} (hq : ∀ (r : Int) (σ1 : St), Q r σ1 → Fr S_X12_is_s14 σ0 σ1 → Q' r σ1) : ∀ (n : Nat) (x2 : Int) (x3 : Int) (σ : St), Fr S_X12_is_s14 σ0 σ → wp_X12_is_s14_l39 Q n x2 x3 σ → wp_X12_is_s14_l39 Q' n x2 x3 σ := by
  intro n
  induction n with
  | zero => intro _ _ _ _ h; exact h.elim
  | succ n ih =>
    intro x2 x3 σ f0 h
    unfold wp_X12_is_s14_l39 at h ⊢
    refine ⟨fun hc => ?_, fun hc => ?_⟩
    · replace h := h.1 hc
      exact ⟨h.1, hq _ _ h.2 f0⟩
    · replace h := h.2 hc
      refine ⟨fun hc => ?_, fun hc => ?_⟩
      · replace h := h.1 hc
        exact ⟨h.1, hq _ _ h.2 f0⟩
      · replace h := h.2 hc
        refine ⟨h.1, ?_⟩; replace h := h.2
        refine ⟨h.1, ?_⟩; replace h := h.2
        refine ⟨fun hc => ?_, fun hc => ?_⟩
        · replace h := h.1 hc
          exact mf_X12_is_s14_b75 hq ih f0 h
        · replace h := h.2 hc
          exact mf_X12_is_s14_b75 hq ih f0 h
set_option maxHeartbeats 1000000 in
theorem mf_X12_is_s14_b36 {Q Q' : Int → St → Prop} {σ0 : St} (hq : ∀ (r : Int) (σ1 : St), Q r σ1 → Fr S_X12_is_s14 σ0 σ1 → Q' r σ1) {s0 : Int} {σ : St} (f0 : Fr S_X12_is_s14 σ0 σ) (h : wp_X12_is_s14_b36 Q s0 σ) : wp_X12_is_s14_b36 Q' s0 σ := by
  unfold wp_X12_is_s14_b36 at h ⊢
  exact mf_X12_is_s14_l39 hq bigN _ _ _ f0 h
set_option maxHeartbeats 1000000 in
theorem mf_X12_is_s14_b35 {Q Q' : Int → St → Prop} {σ0 : St} (hq : ∀ (r : Int) (σ1 : St), Q r σ1 → Fr S_X12_is_s14 σ0 σ1 → Q' r σ1) {σ : St} (f0 : Fr S_X12_is_s14 σ0 σ) (h : wp_X12_is_s14_b35 Q  σ) : wp_X12_is_s14_b35 Q'  σ := by
  unfold wp_X12_is_s14_b35 at h ⊢
  exact mf_X12_is_s14_b36 hq f0 h
set_option maxHeartbeats 1000000 in
theorem mf_X12_is_s14 {Q Q' : Int → St → Prop} {σ0 : St} (hq : ∀ (r : Int) (σ1 : St), Q r σ1 → Fr S_X12_is_s14 σ0 σ1 → Q' r σ1) {σ : St} (f0 : Fr S_X12_is_s14 σ0 σ) (h : wp_X12_is_s14  σ Q) : wp_X12_is_s14  σ Q' := by
  unfold wp_X12_is_s14 at h ⊢
  refine mf_X12_good (fun r1 σ2 h gσ2 => ?_) Fr.rf h
  have fσ2 : Fr S_X12_is_s14 σ0 σ2 := f0.tr gσ2 (mkS_sub (by decide) (by decide))
  refine ⟨fun hc => ?_, fun hc => ?_⟩
  · replace h := h.1 hc
    exact mf_X12_is_s14_b35 hq fσ2 h
  · replace h := h.2 hc
    refine ⟨fun hc => ?_, fun hc => ?_⟩
    · replace h := h.1 hc
      exact mf_X12_is_s14_b35 hq fσ2 h
    · replace h := h.2 hc
      refine ⟨fun hc => ?_, fun hc => ?_⟩
      · replace h := h.1 hc
        exact mf_X12_is_s14_b35 hq fσ2 h
      · replace h := h.2 hc
        exact mf_X12_is_s14_b36 hq fσ2 h
set_option maxHeartbeats 1000000 in
theorem mf_X12_is_s15_b75 {Q Q' : Int → St → Prop} {σ0 : St} (hq : ∀ (r : Int) (σ1 : St), Q r σ1 → Fr S_X12_is_s15 σ0 σ1 → Q' r σ1) {K39 K39' : Int → Int → St → Prop} (hK39 : ∀ (x2 : Int) (x3 : Int) (σ : St), Fr S_X12_is_s15 σ0 σ → K39 x2 x3 σ → K39' x2 x3 σ) {x3 s0 : Int} {σ : St} (f0 : Fr S_X12_is_s15 σ0 σ) (h : wp_X12_is_s15_b75 Q K39 x3 s0 σ) : wp_X12_is_s15_b75 Q' K39' x3 s0 σ := by
  unfold wp_X12_is_s15_b75 at h ⊢
  intro v3 ev3; replace h := h v3 ev3
  exact hK39 _ _ _ f0 h
set_option maxHeartbeats 1000000 in
theorem mf_X12_is_s15_l39 {Q Q' : Int → St → Prop} {σ0 : St} (hq : ∀ (r : Int) (σ1 : St), Q r σ1 → Fr S_X12_is_s15 σ0 σ1 → Q' r σ1) : ∀ (n : Nat) (x2 : Int) (x3 : Int) (σ : St), Fr S_X12_is_s15 σ0 σ → wp_X12_is_s15_l39 Q n x2 x3 σ → wp_X12_is_s15_l39 Q' n x2 x3 σ := by
  intro n
  induction n with
  | zero => intro _ _ _ _ h; exact h.elim
  | succ n ih =>
    intro x2 x3 σ f0 h
    unfold wp_X12_is_s15_l39 at h ⊢
    refine ⟨fun hc => ?_, fun hc => ?_⟩
    · replace h := h.1 hc
      exact ⟨h.1, hq _ _ h.2 f0⟩
    · replace h := h.2 hc
      refine ⟨fun hc => ?_, fun hc => ?_⟩
      · replace h := h.1 hc
        exact ⟨h.1, hq _ _ h.2 f0⟩
      · replace h := h.2 hc
        refine ⟨h.1, ?_⟩; replace h := h.2
        refine ⟨h.1, ?_⟩; replace h := h.2
        refine ⟨fun hc => ?_, fun hc => ?_⟩
        · replace h := h.1 hc
          exact mf_X12_is_s15_b75 hq ih f0 h
        · replace h := h.2 hc
          exact mf_X12_is_s15_b75 hq ih f0 h
set_option maxHeartbeats 1000000 in
theorem mf_X12_is_s15_b36 {Q Q' : Int → St → Prop} {σ0 : St} (hq : ∀ (r : Int) (σ1 : St), Q r σ1 → Fr S_X12_is_s15 σ0 σ1 → Q' r σ1) {s0 : Int} {σ : St} (f0 : Fr S_X12_is_s15 σ0 σ) (h : wp_X12_is_s15_b36 Q s0 σ) : wp_X12_is_s15_b36 Q' s0 σ := by
  unfold wp_X12_is_s15_b36 at h ⊢
  exact mf_X12_is_s15_l39 hq bigN _ _ _ f0 h
set_option maxHeartbeats 1000000 in
theorem mf_X12_is_s15_b35 {Q Q' : Int → St → Prop} {σ0 : St} (hq : ∀ (r : Int) (σ1 : St), Q r σ1 → Fr S_X12_is_s15 σ0 σ1 → Q' r σ1) {σ : St} (f0 : Fr S_X12_is_s15 σ0 σ) (h : wp_X12_is_s15_b35 Q  σ) : wp_X12_is_s15_b35 Q'  σ := by
  unfold wp_X12_is_s15_b35 at h ⊢
  exact mf_X12_is_s15_b36 hq f0 h
set_option maxHeartbeats 1000000 in
theorem mf_X12_is_s15 {Q Q' : Int → St → Prop} {σ0 : St} (hq : ∀ (r : Int) (σ1 : St), Q r σ1 → Fr S_X12_is_s15 σ0 σ1 → Q' r σ1) {σ : St} (f0 : Fr S_X12_is_s15 σ0 σ) (h : wp_X12_is_s15  σ Q) : wp_X12_is_s15  σ Q' := by
  unfold wp_X12_is_s15 at h ⊢
  refine mf_X12_good (fun r1 σ2 h gσ2 => ?_) Fr.rf h
  have fσ2 : Fr S_X12_is_s15 σ0 σ2 := f0.tr gσ2 (mkS_sub (by decide) (by decide))
  refine ⟨fun hc => ?_, fun hc => ?_⟩
  · replace h := h.1 hc
    exact mf_X12_is_s15_b35 hq fσ2 h
  · replace h := h.2 hc
    refine ⟨fun hc => ?_, fun hc => ?_⟩
    · replace h := h.1 hc
      exact mf_X12_is_s15_b35 hq fσ2 h
    · replace h := h.2 hc
      refine ⟨fun hc => ?_, fun hc => ?_⟩
      · replace h := h.1 hc
        exact mf_X12_is_s15_b35 hq fσ2 h
      · replace h := h.2 hc
        exact mf_X12_is_s15_b36 hq fσ2 h
set_option maxHeartbeats 1000000 in
theorem mf_X12_readRule_b182 {Q Q' : Int → St → Prop} {σ0 : St} (hq : ∀ (r : Int) (σ1 : St), Q r σ1 → Fr S_X12_readRule σ0 σ1 → Q' r σ1) {σ : St} (f0 : Fr S_X12_readRule σ0 σ) (h : wp_X12_readRule_b182 Q  σ) : wp_X12_readRule_b182 Q'  σ := by
  unfold wp_X12_readRule_b182 at h ⊢
  intro σ41 eσ41; replace h := h σ41 eσ41; have fσ41 : Fr S_X12_readRule σ0 σ41 := by rw [eσ41]; exact f0.up rfl
  exact hq _ _ h fσ41
set_option maxHeartbeats 1000000 in
theorem mf_X12_readRule_b138 {Q Q' : Int → St → Prop} {σ0 : St} (hq : ∀ (r : Int) (σ1 : St), Q r σ1 → Fr S_X12_readRule σ0 σ1 → Q' r σ1) {x1 : Int} {σ : St} (f0 : Fr S_X12_readRule σ0 σ) (h : wp_X12_readRule_b138 Q x1 σ) : wp_X12_readRule_b138 Q' x1 σ := by
  unfold wp_X12_readRule_b138 at h ⊢
  refine ⟨h.1, fun σ33 eσ33 => ?_⟩; replace h := h.2 σ33 eσ33; have fσ33 : Fr S_X12_readRule σ0 σ33 := by rw [eσ33]; exact f0.up rfl
  refine mf_X12_is_s15 (fun r34 σ35 h gσ35 => ?_) Fr.rf h
  have fσ35 : Fr S_X12_readRule σ0 σ35 := fσ33.tr gσ35 (mkS_sub (by decide) (by decide))
  refine ⟨fun hc => ?_, fun hc => ?_⟩
  · replace h := h.1 hc
    exact mf_X12_readRule_b182 hq fσ35 h
  · replace h := h.2 hc
    refine mf_X12_advance (fun r36 σ37 h gσ37 => ?_) Fr.rf h
    have fσ37 : Fr S_X12_readRule σ0 σ37 := fσ35.tr gσ37 (mkS_sub (by decide) (by decide))
    refine mf_X12_takes (fun r38 σ39 h gσ39 => ?_) Fr.rf h
    have fσ39 : Fr S_X12_readRule σ0 σ39 := fσ37.tr gσ39 (mkS_sub (by decide) (by decide))
    refine ⟨h.1, fun σ40 eσ40 => ?_⟩; replace h := h.2 σ40 eσ40; have fσ40 : Fr S_X12_readRule σ0 σ40 := by rw [eσ40]; exact fσ39.up rfl
    exact mf_X12_readRule_b182 hq fσ40 h
set_option maxHeartbeats 1000000 in
theorem mf_X12_readRule_b104 {Q Q' : Int → St → Prop} {σ0 : St} (hq : ∀ (r : Int) (σ1 : St), Q r σ1 → Fr S_X12_readRule σ0 σ1 → Q' r σ1) {x1 s0 s1 : Int} {σ : St} (f0 : Fr S_X12_readRule σ0 σ) (h : wp_X12_readRule_b104 Q x1 s0 s1 σ) : wp_X12_readRule_b104 Q' x1 s0 s1 σ := by
  unfold wp_X12_readRule_b104 at h ⊢
  refine ⟨h.1, fun σ24 eσ24 => ?_⟩; replace h := h.2 σ24 eσ24; have fσ24 : Fr S_X12_readRule σ0 σ24 := by rw [eσ24]; exact f0.up rfl
  refine ⟨h.1, fun σ25 eσ25 => ?_⟩; replace h := h.2 σ25 eσ25; have fσ25 : Fr S_X12_readRule σ0 σ25 := by rw [eσ25]; exact fσ24.up rfl
  refine mf_X12_is_s14 (fun r26 σ27 h gσ27 => ?_) Fr.rf h
  have fσ27 : Fr S_X12_readRule σ0 σ27 := fσ25.tr gσ27 (mkS_sub (by decide) (by decide))
  refine ⟨fun hc => ?_, fun hc => ?_⟩
  · replace h := h.1 hc
    exact mf_X12_readRule_b138 hq fσ27 h
  · replace h := h.2 hc
    refine mf_X12_advance (fun r28 σ29 h gσ29 => ?_) Fr.rf h
    have fσ29 : Fr S_X12_readRule σ0 σ29 := fσ27.tr gσ29 (mkS_sub (by decide) (by decide))
    refine mf_X12_takes (fun r30 σ31 h gσ31 => ?_) Fr.rf h
    have fσ31 : Fr S_X12_readRule σ0 σ31 := fσ29.tr gσ31 (mkS_sub (by decide) (by decide))
    refine ⟨h.1, fun σ32 eσ32 => ?_⟩; replace h := h.2 σ32 eσ32; have fσ32 : Fr S_X12_readRule σ0 σ32 := by rw [eσ32]; exact fσ31.up rfl
    exact mf_X12_readRule_b138 hq fσ32 h
set_option maxHeartbeats 1000000 in
theorem mf_X12_readRule_b68 {Q Q' : Int → St → Prop} {σ0 : St} (hq : ∀ (r : Int) (σ1 : St), Q r σ1 → Fr S_X12_readRule σ0 σ1 → Q' r σ1) {x1 : Int} {σ : St} (f0 : Fr S_X12_readRule σ0 σ) (h : wp_X12_readRule_b68 Q x1 σ) : wp_X12_readRule_b68 Q' x1 σ := by
  unfold wp_X12_readRule_b68 at h ⊢
  refine mf_X12_takesSign (fun r15 σ16 h gσ16 => ?_) Fr.rf h
  have fσ16 : Fr S_X12_readRule σ0 σ16 := f0.tr gσ16 (mkS_sub (by decide) (by decide))
  refine mf_X12_readPart (fun r17 σ18 h gσ18 => ?_) Fr.rf h
  have fσ18 : Fr S_X12_readRule σ0 σ18 := fσ16.tr gσ18 (mkS_sub (by decide) (by decide))
  refine ⟨h.1, fun σ19 eσ19 => ?_⟩; replace h := h.2 σ19 eσ19; have fσ19 : Fr S_X12_readRule σ0 σ19 := by rw [eσ19]; exact fσ18.up rfl
  refine mf_X12_isPart (fun r20 σ21 h gσ21 => ?_) Fr.rf h
  have fσ21 : Fr S_X12_readRule σ0 σ21 := fσ19.tr gσ21 (mkS_sub (by decide) (by decide))
  refine ⟨fun hc => ?_, fun hc => ?_⟩
  · replace h := h.1 hc
    exact mf_X12_readRule_b104 hq fσ21 h
  · replace h := h.2 hc
    refine mf_X12_readPart (fun r22 σ23 h gσ23 => ?_) Fr.rf h
    have fσ23 : Fr S_X12_readRule σ0 σ23 := fσ21.tr gσ23 (mkS_sub (by decide) (by decide))
    exact mf_X12_readRule_b104 hq fσ23 h
set_option maxHeartbeats 1000000 in
theorem mf_X12_readRule_b47 {Q Q' : Int → St → Prop} {σ0 : St} (hq : ∀ (r : Int) (σ1 : St), Q r σ1 → Fr S_X12_readRule σ0 σ1 → Q' r σ1) {x1 : Int} {σ : St} (f0 : Fr S_X12_readRule σ0 σ) (h : wp_X12_readRule_b47 Q x1 σ) : wp_X12_readRule_b47 Q' x1 σ := by
  unfold wp_X12_readRule_b47 at h ⊢
  refine ⟨h.1, fun σ10 eσ10 => ?_⟩; replace h := h.2 σ10 eσ10; have fσ10 : Fr S_X12_readRule σ0 σ10 := by rw [eσ10]; exact f0.up rfl
  refine mf_X12_good (fun r11 σ12 h gσ12 => ?_) Fr.rf h
  have fσ12 : Fr S_X12_readRule σ0 σ12 := fσ10.tr gσ12 (mkS_sub (by decide) (by decide))
  refine ⟨fun hc => ?_, fun hc => ?_⟩
  · replace h := h.1 hc
    exact mf_X12_readRule_b68 hq fσ12 h
  · replace h := h.2 hc
    refine mf_X12_advance (fun r13 σ14 h gσ14 => ?_) Fr.rf h
    have fσ14 : Fr S_X12_readRule σ0 σ14 := fσ12.tr gσ14 (mkS_sub (by decide) (by decide))
    exact mf_X12_readRule_b68 hq fσ14 h
set_option maxHeartbeats 1000000 in
theorem mf_X12_readRule_b14 {Q Q' : Int → St → Prop} {σ0 : St} (hq : ∀ (r : Int) (σ1 : St), Q r σ1 → Fr S_X12_readRule σ0 σ1 → Q' r σ1) {σ : St} (f0 : Fr S_X12_readRule σ0 σ) (h : wp_X12_readRule_b14 Q  σ) : wp_X12_readRule_b14 Q'  σ := by
  unfold wp_X12_readRule_b14 at h ⊢
  refine mf_X12_good (fun r3 σ4 h gσ4 => ?_) Fr.rf h
  have fσ4 : Fr S_X12_readRule σ0 σ4 := f0.tr gσ4 (mkS_sub (by decide) (by decide))
  refine ⟨fun hc => ?_, fun hc => ?_⟩
  · replace h := h.1 hc
    refine mf_X12_advance (fun r5 σ6 h gσ6 => ?_) Fr.rf h
    have fσ6 : Fr S_X12_readRule σ0 σ6 := fσ4.tr gσ6 (mkS_sub (by decide) (by decide))
    intro v7 ev7; replace h := h v7 ev7
    refine ⟨fun hc => ?_, fun hc => ?_⟩
    · replace h := h.1 hc
      exact mf_X12_readRule_b47 hq fσ6 h
    · replace h := h.2 hc
      refine mf_X12_errs (fun r8 σ9 h gσ9 => ?_) Fr.rf h
      have fσ9 : Fr S_X12_readRule σ0 σ9 := fσ6.tr gσ9 (mkS_sub (by decide) (by decide))
      exact mf_X12_readRule_b47 hq fσ9 h
  · replace h := h.2 hc
    exact hq _ _ h fσ4
set_option maxHeartbeats 1000000 in
theorem mf_X12_readRule {Q Q' : Int → St → Prop} {σ0 : St} (hq : ∀ (r : Int) (σ1 : St), Q r σ1 → Fr S_X12_readRule σ0 σ1 → Q' r σ1) {σ : St} (f0 : Fr S_X12_readRule σ0 σ) (h : wp_X12_readRule  σ Q) : wp_X12_readRule  σ Q' := by
  unfold wp_X12_readRule at h ⊢
  refine ⟨fun hc => ?_, fun hc => ?_⟩
  · replace h := h.1 hc
    exact mf_X12_readRule_b14 hq f0 h
  · replace h := h.2 hc
    refine mf_X12_errs (fun r1 σ2 h gσ2 => ?_) Fr.rf h
    have fσ2 : Fr S_X12_readRule σ0 σ2 := f0.tr gσ2 (mkS_sub (by decide) (by decide))
    exact mf_X12_readRule_b14 hq fσ2 h
set_option maxHeartbeats 1000000 in
theorem mf_X12_grammar_b97 {Q Q' : Int → St → Prop} {σ0 : St} (hq : ∀ (r : Int) (σ1 : St), Q r σ1 → Fr S_X12_grammar σ0 σ1 → Q' r σ1) {K56 K56' : Int → St → Prop} (hK56 : ∀ (x1 : Int) (σ : St), Fr S_X12_grammar σ0 σ → K56 x1 σ → K56' x1 σ) {x1 s0 s1 : Int} {σ : St} (f0 : Fr S_X12_grammar σ0 σ) (h : wp_X12_grammar_b97 Q K56 x1 s0 s1 σ) : wp_X12_grammar_b97 Q' K56' x1 s0 s1 σ := by
  unfold wp_X12_grammar_b97 at h ⊢
  refine ⟨h.1, fun σ31 eσ31 => ?_⟩; replace h := h.2 σ31 eσ31; have fσ31 : Fr S_X12_grammar σ0 σ31 := by rw [eσ31]; exact f0.up rfl
  intro v32 ev32; replace h := h v32 ev32
  exact hK56 _ _ fσ31 h
set_option maxHeartbeats 1000000 in
theorem mf_X12_grammar_b78 {Q Q' : Int → St → Prop} {σ0 : St} (hq : ∀ (r : Int) (σ1 : St), Q r σ1 → Fr S_X12_grammar σ0 σ1 → Q' r σ1) {K56 K56' : Int → St → Prop} (hK56 : ∀ (x1 : Int) (σ : St), Fr S_X12_grammar σ0 σ → K56 x1 σ → K56' x1 σ) {x1 s0 s1 : Int} {σ : St} (f0 : Fr S_X12_grammar σ0 σ) (h : wp_X12_grammar_b78 Q K56 x1 s0 s1 σ) : wp_X12_grammar_b78 Q' K56' x1 s0 s1 σ := by
  unfold wp_X12_grammar_b78 at h ⊢
  refine ⟨h.1, fun σ18 eσ18 => ?_⟩; replace h := h.2 σ18 eσ18; have fσ18 : Fr S_X12_grammar σ0 σ18 := by rw [eσ18]; exact f0.up rfl
  refine ⟨fun hc => ?_, fun hc => ?_⟩
  · replace h := h.1 hc
    exact mf_X12_grammar_b97 hq hK56 fσ18 h
  · replace h := h.2 hc
    exact mf_X12_grammar_b97 hq hK56 fσ18 h
set_option maxHeartbeats 1000000 in
theorem mf_X12_grammar_b165 {Q Q' : Int → St → Prop} {σ0 : St} (hq : ∀ (r : Int) (σ1 : St), Q r σ1 → Fr S_X12_grammar σ0 σ1 → Q' r σ1) {K110 K110' : Int → St → Prop} (hK110 : ∀ (x1 : Int) (σ : St), Fr S_X12_grammar σ0 σ → K110 x1 σ → K110' x1 σ) {σ : St} (f0 : Fr S_X12_grammar σ0 σ) (h : wp_X12_grammar_b165 Q K110  σ) : wp_X12_grammar_b165 Q' K110'  σ := by
  unfold wp_X12_grammar_b165 at h ⊢
  refine mf_X12_takesSign (fun r29 σ30 h gσ30 => ?_) Fr.rf h
  have fσ30 : Fr S_X12_grammar σ0 σ30 := f0.tr gσ30 (mkS_sub (by decide) (by decide))
  exact hK110 _ _ fσ30 h
set_option maxHeartbeats 1000000 in
theorem mf_X12_grammar_b144 {Q Q' : Int → St → Prop} {σ0 : St} (hq : ∀ (r : Int) (σ1 : St), Q r σ1 → Fr S_X12_grammar σ0 σ1 → Q' r σ1) {K110 K110' : Int → St → Prop} (hK110 : ∀ (x1 : Int) (σ : St), Fr S_X12_grammar σ0 σ → K110 x1 σ → K110' x1 σ) {σ : St} (f0 : Fr S_X12_grammar σ0 σ) (h : wp_X12_grammar_b144 Q K110  σ) : wp_X12_grammar_b144 Q' K110'  σ := by
  unfold wp_X12_grammar_b144 at h ⊢
  refine mf_X12_is_s13 (fun r23 σ24 h gσ24 => ?_) Fr.rf h
  have fσ24 : Fr S_X12_grammar σ0 σ24 := f0.tr gσ24 (mkS_sub (by decide) (by decide))
  refine ⟨fun hc => ?_, fun hc => ?_⟩
  · replace h := h.1 hc
    refine mf_X12_errs (fun r25 σ26 h gσ26 => ?_) Fr.rf h
    have fσ26 : Fr S_X12_grammar σ0 σ26 := fσ24.tr gσ26 (mkS_sub (by decide) (by decide))
    exact mf_X12_grammar_b165 hq hK110 fσ26 h
  · replace h := h.2 hc
    refine mf_X12_readRule (fun r27 σ28 h gσ28 => ?_) Fr.rf h
    have fσ28 : Fr S_X12_grammar σ0 σ28 := fσ24.tr gσ28 (mkS_sub (by decide) (by decide))
    exact mf_X12_grammar_b165 hq hK110 fσ28 h
set_option maxHeartbeats 1000000 in
theorem mf_X12_grammar_l328 {Q Q' : Int → St → Prop} {σ0 : St} (hq : ∀ (r : Int) (σ1 : St), Q r σ1 → Fr S_X12_grammar σ0 σ1 → Q' r σ1) : ∀ (n : Nat) (x2 : Int) (σ : St), Fr S_X12_grammar σ0 σ → wp_X12_grammar_l328 Q n x2 σ → wp_X12_grammar_l328 Q' n x2 σ := by
  intro n
  induction n with
  | zero => intro _ _ _ h; exact h.elim
  | succ n ih =>
    intro x2 σ f0 h
    unfold wp_X12_grammar_l328 at h ⊢
    refine ⟨fun hc => ?_, fun hc => ?_⟩
    · replace h := h.1 hc
      exact hq _ _ h f0
    · replace h := h.2 hc
      refine ⟨h.1, ?_⟩; replace h := h.2
      refine ⟨h.1, fun σ42 eσ42 => ?_⟩; replace h := h.2 σ42 eσ42; have fσ42 : Fr S_X12_grammar σ0 σ42 := by rw [eσ42]; exact f0.up rfl
      refine ⟨h.1, ?_⟩; replace h := h.2
      refine ⟨h.1, fun σ43 eσ43 => ?_⟩; replace h := h.2 σ43 eσ43; have fσ43 : Fr S_X12_grammar σ0 σ43 := by rw [eσ43]; exact fσ42.up rfl
      intro v44 ev44; replace h := h v44 ev44
      exact ih _ _ fσ43 h
set_option maxHeartbeats 1000000 in
theorem mf_X12_grammar_l201 {Q Q' : Int → St → Prop} {σ0 : St} (hq : ∀ (r : Int) (σ1 : St), Q r σ1 → Fr S_X12_grammar σ0 σ1 → Q' r σ1) : ∀ (n : Nat) (x2 : Int) (σ : St), Fr S_X12_grammar σ0 σ → wp_X12_grammar_l201 Q n x2 σ → wp_X12_grammar_l201 Q' n x2 σ := by
  intro n
  induction n with
  | zero => intro _ _ _ h; exact h.elim
  | succ n ih =>
    intro x2 σ f0 h
    unfold wp_X12_grammar_l201 at h ⊢
    refine ⟨fun hc => ?_, fun hc => ?_⟩
    · replace h := h.1 hc
      intro σ33 eσ33; replace h := h σ33 eσ33; have fσ33 : Fr S_X12_grammar σ0 σ33 := by rw [eσ33]; exact f0.up rfl
      intro σ34 eσ34; replace h := h σ34 eσ34; have fσ34 : Fr S_X12_grammar σ0 σ34 := by rw [eσ34]; exact fσ33.up rfl
      intro σ35 eσ35; replace h := h σ35 eσ35; have fσ35 : Fr S_X12_grammar σ0 σ35 := by rw [eσ35]; exact fσ34.up rfl
      exact mf_X12_grammar_l328 hq bigN _ _ fσ35 h
    · replace h := h.2 hc
      refine ⟨h.1, ?_⟩; replace h := h.2
      refine ⟨h.1, fun σ36 eσ36 => ?_⟩; replace h := h.2 σ36 eσ36; have fσ36 : Fr S_X12_grammar σ0 σ36 := by rw [eσ36]; exact f0.up rfl
      refine ⟨h.1, ?_⟩; replace h := h.2
      refine ⟨h.1, fun σ37 eσ37 => ?_⟩; replace h := h.2 σ37 eσ37; have fσ37 : Fr S_X12_grammar σ0 σ37 := by rw [eσ37]; exact fσ36.up rfl
      refine ⟨h.1, ?_⟩; replace h := h.2
      refine ⟨h.1, fun σ38 eσ38 => ?_⟩; replace h := h.2 σ38 eσ38; have fσ38 : Fr S_X12_grammar σ0 σ38 := by rw [eσ38]; exact fσ37.up rfl
      refine ⟨h.1, ?_⟩; replace h := h.2
      refine ⟨h.1, fun σ39 eσ39 => ?_⟩; replace h := h.2 σ39 eσ39; have fσ39 : Fr S_X12_grammar σ0 σ39 := by rw [eσ39]; exact fσ38.up rfl
      refine ⟨h.1, ?_⟩; replace h := h.2
      refine ⟨h.1, fun σ40 eσ40 => ?_⟩; replace h := h.2 σ40 eσ40; have fσ40 : Fr S_X12_grammar σ0 σ40 := by rw [eσ40]; exact fσ39.up rfl
      intro v41 ev41; replace h := h v41 ev41
      exact ih _ _ fσ40 h
set_option maxHeartbeats 1000000 in
theorem mf_X12_grammar_b176 {Q Q' : Int → St → Prop} {σ0 : St} (hq : ∀ (r : Int) (σ1 : St), Q r σ1 → Fr S_X12_grammar σ0 σ1 → Q' r σ1) {σ : St} (f0 : Fr S_X12_grammar σ0 σ) (h : wp_X12_grammar_b176 Q  σ) : wp_X12_grammar_b176 Q'  σ := by
  unfold wp_X12_grammar_b176 at h ⊢
  refine mf_X12_good (fun r19 σ20 h gσ20 => ?_) Fr.rf h
  have fσ20 : Fr S_X12_grammar σ0 σ20 := f0.tr gσ20 (mkS_sub (by decide) (by decide))
  refine ⟨fun hc => ?_, fun hc => ?_⟩
  · replace h := h.1 hc
    intro σ21 eσ21; replace h := h σ21 eσ21; have fσ21 : Fr S_X12_grammar σ0 σ21 := by rw [eσ21]; exact fσ20.up rfl
    intro σ22 eσ22; replace h := h σ22 eσ22; have fσ22 : Fr S_X12_grammar σ0 σ22 := by rw [eσ22]; exact fσ21.up rfl
    exact mf_X12_grammar_l201 hq bigN _ _ fσ22 h
  · replace h := h.2 hc
    exact hq _ _ h fσ20
set_option maxHeartbeats 1000000 in
theorem mf_X12_grammar_l110 {Q Q' : Int → St → Prop} {σ0 : St} (hq : ∀ (r : Int) (σ1 : St), Q r σ1 → Fr S_X12_grammar σ0 σ1 → Q' r σ1) : ∀ (n : Nat) (x1 : Int) (σ : St), Fr S_X12_grammar σ0 σ → wp_X12_grammar_l110 Q n x1 σ → wp_X12_grammar_l110 Q' n x1 σ := by
  intro n
  induction n with
  | zero => intro _ _ _ h; exact h.elim
  | succ n ih =>
    intro x1 σ f0 h
    unfold wp_X12_grammar_l110 at h ⊢
    refine mf_X12_good (fun r12 σ13 h gσ13 => ?_) Fr.rf h
    have fσ13 : Fr S_X12_grammar σ0 σ13 := f0.tr gσ13 (mkS_sub (by decide) (by decide))
    refine ⟨fun hc => ?_, fun hc => ?_⟩
    · replace h := h.1 hc
      exact mf_X12_grammar_b176 hq fσ13 h
    · replace h := h.2 hc
      refine ⟨fun hc => ?_, fun hc => ?_⟩
      · replace h := h.1 hc
        exact mf_X12_grammar_b176 hq fσ13 h
      · replace h := h.2 hc
        refine ⟨fun hc => ?_, fun hc => ?_⟩
        · replace h := h.1 hc
          exact mf_X12_grammar_b144 hq ih fσ13 h
        · replace h := h.2 hc
          refine mf_X12_is_s8 (fun r14 σ15 h gσ15 => ?_) Fr.rf h
          have fσ15 : Fr S_X12_grammar σ0 σ15 := fσ13.tr gσ15 (mkS_sub (by decide) (by decide))
          refine ⟨fun hc => ?_, fun hc => ?_⟩
          · replace h := h.1 hc
            exact mf_X12_grammar_b144 hq ih fσ15 h
          · replace h := h.2 hc
            refine mf_X12_readTable (fun r16 σ17 h gσ17 => ?_) Fr.rf h
            have fσ17 : Fr S_X12_grammar σ0 σ17 := fσ15.tr gσ17 (mkS_sub (by decide) (by decide))
            exact mf_X12_grammar_b165 hq ih fσ17 h
set_option maxHeartbeats 1000000 in
theorem mf_X12_grammar_l56 {Q Q' : Int → St → Prop} {σ0 : St} (hq : ∀ (r : Int) (σ1 : St), Q r σ1 → Fr S_X12_grammar σ0 σ1 → Q' r σ1) : ∀ (n : Nat) (x1 : Int) (σ : St), Fr S_X12_grammar σ0 σ → wp_X12_grammar_l56 Q n x1 σ → wp_X12_grammar_l56 Q' n x1 σ := by
  intro n
  induction n with
  | zero => intro _ _ _ h; exact h.elim
  | succ n ih =>
    intro x1 σ f0 h
    unfold wp_X12_grammar_l56 at h ⊢
    refine ⟨fun hc => ?_, fun hc => ?_⟩
    · replace h := h.1 hc
      refine mf_X12_advance (fun r10 σ11 h gσ11 => ?_) Fr.rf h
      have fσ11 : Fr S_X12_grammar σ0 σ11 := f0.tr gσ11 (mkS_sub (by decide) (by decide))
      exact mf_X12_grammar_l110 hq bigN _ _ fσ11 h
    · replace h := h.2 hc
      refine ⟨fun hc => ?_, fun hc => ?_⟩
      · replace h := h.1 hc
        exact mf_X12_grammar_b78 hq ih f0 h
      · replace h := h.2 hc
        exact mf_X12_grammar_b78 hq ih f0 h
set_option maxHeartbeats 1000000 in
theorem mf_X12_grammar {Q Q' : Int → St → Prop} {σ0 : St} (hq : ∀ (r : Int) (σ1 : St), Q r σ1 → Fr S_X12_grammar σ0 σ1 → Q' r σ1) {σ : St} (f0 : Fr S_X12_grammar σ0 σ) (h : wp_X12_grammar  σ Q) : wp_X12_grammar  σ Q' := by
  unfold wp_X12_grammar at h ⊢
  intro σ1 eσ1; replace h := h σ1 eσ1; have fσ1 : Fr S_X12_grammar σ0 σ1 := by rw [eσ1]; exact f0.up rfl
  intro σ2 eσ2; replace h := h σ2 eσ2; have fσ2 : Fr S_X12_grammar σ0 σ2 := by rw [eσ2]; exact fσ1.up rfl
  intro σ3 eσ3; replace h := h σ3 eσ3; have fσ3 : Fr S_X12_grammar σ0 σ3 := by rw [eσ3]; exact fσ2.up rfl
  intro σ4 eσ4; replace h := h σ4 eσ4; have fσ4 : Fr S_X12_grammar σ0 σ4 := by rw [eσ4]; exact fσ3.up rfl
  intro σ5 eσ5; replace h := h σ5 eσ5; have fσ5 : Fr S_X12_grammar σ0 σ5 := by rw [eσ5]; exact fσ4.up rfl
  intro σ6 eσ6; replace h := h σ6 eσ6; have fσ6 : Fr S_X12_grammar σ0 σ6 := by rw [eσ6]; exact fσ5.up rfl
  intro σ7 eσ7; replace h := h σ7 eσ7; have fσ7 : Fr S_X12_grammar σ0 σ7 := by rw [eσ7]; exact fσ6.up rfl
  intro σ8 eσ8; replace h := h σ8 eσ8; have fσ8 : Fr S_X12_grammar σ0 σ8 := by rw [eσ8]; exact fσ7.up rfl
  intro σ9 eσ9; replace h := h σ9 eσ9; have fσ9 : Fr S_X12_grammar σ0 σ9 := by rw [eσ9]; exact fσ8.up rfl
  exact mf_X12_grammar_l56 hq bigN _ _ fσ9 h
set_option maxHeartbeats 1000000 in
theorem mf_X12_fault {Q Q' : Int → St → Prop} {σ0 : St} (hq : ∀ (r : Int) (σ1 : St), Q r σ1 → Fr S_X12_fault σ0 σ1 → Q' r σ1) {x1 : Int} {σ : St} (f0 : Fr S_X12_fault σ0 σ) (h : wp_X12_fault x1 σ Q) : wp_X12_fault x1 σ Q' := by
  unfold wp_X12_fault at h ⊢
  refine ⟨fun hc => ?_, fun hc => ?_⟩
  · replace h := h.1 hc
    refine ⟨fun hc => ?_, fun hc => ?_⟩
    · replace h := h.1 hc
      exact hq _ _ h f0
    · replace h := h.2 hc
      exact hq _ _ h f0
  · replace h := h.2 hc
    exact hq _ _ h f0
set_option maxHeartbeats 1000000 in
theorem mf_X12_say_l61 {Q Q' : Int → St → Prop} {σ0 : St} (hq : ∀ (r : Int) (σ1 : St), Q r σ1 → Fr S_X12_say σ0 σ1 → Q' r σ1) : ∀ (n : Nat) (x1 : Int) (x2 : Int) (σ : St), Fr S_X12_say σ0 σ → wp_X12_say_l61 Q n x1 x2 σ → wp_X12_say_l61 Q' n x1 x2 σ := by
  intro n
  induction n with
  | zero => intro _ _ _ _ h; exact h.elim
  | succ n ih =>
    intro x1 x2 σ f0 h
    unfold wp_X12_say_l61 at h ⊢
    refine ⟨fun hc => ?_, fun hc => ?_⟩
    · replace h := h.1 hc
      exact hq _ _ h f0
    · replace h := h.2 hc
      refine ⟨h.1, ?_⟩; replace h := h.2
      refine ⟨h.1, fun σ7 eσ7 => ?_⟩; replace h := h.2 σ7 eσ7; have fσ7 : Fr S_X12_say σ0 σ7 := by rw [eσ7]; exact f0.up rfl
      intro v8 ev8; replace h := h v8 ev8
      exact ih _ _ _ fσ7 h
set_option maxHeartbeats 1000000 in
theorem mf_X12_say_l21 {Q Q' : Int → St → Prop} {σ0 : St} (hq : ∀ (r : Int) (σ1 : St), Q r σ1 → Fr S_X12_say σ0 σ1 → Q' r σ1) : ∀ (n : Nat) (x1 : Int) (x2 : Int) (σ : St), Fr S_X12_say σ0 σ → wp_X12_say_l21 Q n x1 x2 σ → wp_X12_say_l21 Q' n x1 x2 σ := by
  intro n
  induction n with
  | zero => intro _ _ _ _ h; exact h.elim
  | succ n ih =>
    intro x1 x2 σ f0 h
    unfold wp_X12_say_l21 at h ⊢
    refine ⟨fun hc => ?_, fun hc => ?_⟩
    · replace h := h.1 hc
      intro σ3 eσ3; replace h := h σ3 eσ3; have fσ3 : Fr S_X12_say σ0 σ3 := by rw [eσ3]; exact f0.up rfl
      exact mf_X12_say_l61 hq bigN _ _ _ fσ3 h
    · replace h := h.2 hc
      refine ⟨h.1, ?_⟩; replace h := h.2
      refine mf_X12_in (fun r4 σ5 h gσ5 => ?_) Fr.rf h
      have fσ5 : Fr S_X12_say σ0 σ5 := f0.tr gσ5 (mkS_sub (by decide) (by decide))
      refine ⟨fun hc => ?_, fun hc => ?_⟩
      · replace h := h.1 hc
        intro v6 ev6; replace h := h v6 ev6
        exact ih _ _ _ fσ5 h
      · replace h := h.2 hc
        exact hq _ _ h fσ5
set_option maxHeartbeats 1000000 in
theorem mf_X12_say {Q Q' : Int → St → Prop} {σ0 : St} (hq : ∀ (r : Int) (σ1 : St), Q r σ1 → Fr S_X12_say σ0 σ1 → Q' r σ1) {σ : St} (f0 : Fr S_X12_say σ0 σ) (h : wp_X12_say  σ Q) : wp_X12_say  σ Q' := by
  unfold wp_X12_say at h ⊢
  intro v1 ev1; replace h := h v1 ev1
  intro σ2 eσ2; replace h := h σ2 eσ2; have fσ2 : Fr S_X12_say σ0 σ2 := by rw [eσ2]; exact f0.up rfl
  refine ⟨fun hc => ?_, fun hc => ?_⟩
  · replace h := h.1 hc
    exact mf_X12_say_l21 hq bigN _ _ _ fσ2 h
  · replace h := h.2 hc
    exact hq _ _ h fσ2
set_option maxHeartbeats 1000000 in
theorem mf_X12_isRule {Q Q' : Int → St → Prop} {σ0 : St} (hq : ∀ (r : Int) (σ1 : St), Q r σ1 → Fr S_X12_isRule σ0 σ1 → Q' r σ1) {x1 : Int} {σ : St} (f0 : Fr S_X12_isRule σ0 σ) (h : wp_X12_isRule x1 σ Q) : wp_X12_isRule x1 σ Q' := by
  unfold wp_X12_isRule at h ⊢
  refine mf_X12_in (fun r1 σ2 h gσ2 => ?_) Fr.rf h
  have fσ2 : Fr S_X12_isRule σ0 σ2 := f0.tr gσ2 (mkS_sub (by decide) (by decide))
  exact ⟨h.1, hq _ _ h.2 fσ2⟩
set_option maxHeartbeats 1000000 in
theorem mf_X12_rule {Q Q' : Int → St → Prop} {σ0 : St} (hq : ∀ (r : Int) (σ1 : St), Q r σ1 → Fr S_X12_rule σ0 σ1 → Q' r σ1) {x1 x2 : Int} {σ : St} (f0 : Fr S_X12_rule σ0 σ) (h : wp_X12_rule x1 x2 σ Q) : wp_X12_rule x1 x2 σ Q' := by
  unfold wp_X12_rule at h ⊢
  refine mf_X12_isRule (fun r1 σ2 h gσ2 => ?_) Fr.rf h
  have fσ2 : Fr S_X12_rule σ0 σ2 := f0.tr gσ2 (mkS_sub (by decide) (by decide))
  refine ⟨fun hc => ?_, fun hc => ?_⟩
  · replace h := h.1 hc
    refine ⟨fun hs0 => ?_, fun hs1 => ?_, fun hs2 => ?_, fun hs3 => ?_, fun hs4 => ?_, fun hs5 => ?_, fun hs6 => ?_⟩
    · replace h := h.1 hs0
      refine ⟨h.1, ?_⟩; replace h := h.2
      exact hq _ _ h fσ2
    · replace h := h.2.1 hs1
      refine ⟨h.1, ?_⟩; replace h := h.2
      exact hq _ _ h fσ2
    · replace h := h.2.2.1 hs2
      refine ⟨h.1, ?_⟩; replace h := h.2
      exact hq _ _ h fσ2
    · replace h := h.2.2.2.1 hs3
      refine ⟨h.1, ?_⟩; replace h := h.2
      exact hq _ _ h fσ2
    · replace h := h.2.2.2.2.1 hs4
      refine ⟨h.1, ?_⟩; replace h := h.2
      exact hq _ _ h fσ2
    · replace h := h.2.2.2.2.2.1 hs5
      exact hq _ _ h fσ2
    · replace h := h.2.2.2.2.2.2 hs6
      exact hq _ _ h fσ2
  · replace h := h.2 hc
    exact hq _ _ h fσ2
set_option maxHeartbeats 1000000 in
theorem mf_X12_isElement {Q Q' : Int → St → Prop} {σ0 : St} (hq : ∀ (r : Int) (σ1 : St), Q r σ1 → Fr S_X12_isElement σ0 σ1 → Q' r σ1) {x1 : Int} {σ : St} (f0 : Fr S_X12_isElement σ0 σ) (h : wp_X12_isElement x1 σ Q) : wp_X12_isElement x1 σ Q' := by
  unfold wp_X12_isElement at h ⊢
  refine mf_X12_in (fun r1 σ2 h gσ2 => ?_) Fr.rf h
  have fσ2 : Fr S_X12_isElement σ0 σ2 := f0.tr gσ2 (mkS_sub (by decide) (by decide))
  exact ⟨h.1, hq _ _ h.2 fσ2⟩
set_option maxHeartbeats 1000000 in
theorem mf_X12_product2 {Q Q' : Int → St → Prop} {σ0 : St} (hq : ∀ (r : Int) (σ1 : St), Q r σ1 → Fr S_X12_product2 σ0 σ1 → Q' r σ1) {x1 x2 : Int} {σ : St} (f0 : Fr S_X12_product2 σ0 σ) (h : wp_X12_product2 x1 x2 σ Q) : wp_X12_product2 x1 x2 σ Q' := by
  unfold wp_X12_product2 at h ⊢
  refine ⟨h.1, ?_⟩; replace h := h.2
  exact hq _ _ h f0
set_option maxHeartbeats 1000000 in
theorem mf_X12_sum2 {Q Q' : Int → St → Prop} {σ0 : St} (hq : ∀ (r : Int) (σ1 : St), Q r σ1 → Fr S_X12_sum2 σ0 σ1 → Q' r σ1) {x1 x2 : Int} {σ : St} (f0 : Fr S_X12_sum2 σ0 σ) (h : wp_X12_sum2 x1 x2 σ Q) : wp_X12_sum2 x1 x2 σ Q' := by
  unfold wp_X12_sum2 at h ⊢
  refine ⟨h.1, ?_⟩; replace h := h.2
  exact hq _ _ h f0
set_option maxHeartbeats 1000000 in
theorem mf_X12_table {Q Q' : Int → St → Prop} {σ0 : St} (hq : ∀ (r : Int) (σ1 : St), Q r σ1 → Fr S_X12_table σ0 σ1 → Q' r σ1) {x1 x2 x3 : Int} {σ : St} (f0 : Fr S_X12_table σ0 σ) (h : wp_X12_table x1 x2 x3 σ Q) : wp_X12_table x1 x2 x3 σ Q' := by
  unfold wp_X12_table at h ⊢
  refine mf_X12_in (fun r1 σ2 h gσ2 => ?_) Fr.rf h
  have fσ2 : Fr S_X12_table σ0 σ2 := f0.tr gσ2 (mkS_sub (by decide) (by decide))
  refine ⟨fun hc => ?_, fun hc => ?_⟩
  · replace h := h.1 hc
    exact hq _ _ h fσ2
  · replace h := h.2 hc
    refine mf_X12_isElement (fun r3 σ4 h gσ4 => ?_) Fr.rf h
    have fσ4 : Fr S_X12_table σ0 σ4 := fσ2.tr gσ4 (mkS_sub (by decide) (by decide))
    refine ⟨fun hc => ?_, fun hc => ?_⟩
    · replace h := h.1 hc
      exact hq _ _ h fσ4
    · replace h := h.2 hc
      refine mf_X12_isElement (fun r5 σ6 h gσ6 => ?_) Fr.rf h
      have fσ6 : Fr S_X12_table σ0 σ6 := fσ4.tr gσ6 (mkS_sub (by decide) (by decide))
      refine ⟨fun hc => ?_, fun hc => ?_⟩
      · replace h := h.1 hc
        refine ⟨fun hc => ?_, fun hc => ?_⟩
        · replace h := h.1 hc
          refine mf_X12_product2 (fun r7 σ8 h gσ8 => ?_) Fr.rf h
          have fσ8 : Fr S_X12_table σ0 σ8 := fσ6.tr gσ8 (mkS_sub (by decide) (by decide))
          exact hq _ _ h fσ8
        · replace h := h.2 hc
          refine mf_X12_sum2 (fun r9 σ10 h gσ10 => ?_) Fr.rf h
          have fσ10 : Fr S_X12_table σ0 σ10 := fσ6.tr gσ10 (mkS_sub (by decide) (by decide))
          exact hq _ _ h fσ10
      · replace h := h.2 hc
        exact hq _ _ h fσ6
set_option maxHeartbeats 1000000 in
theorem mf_X12_drops_b55 {Q Q' : Int → St → Prop} {σ0 : St} (hq : ∀ (r : Int) (σ1 : St), Q r σ1 → Fr S_X12_drops σ0 σ1 → Q' r σ1) {x3 s0 : Int} {σ : St} (f0 : Fr S_X12_drops σ0 σ) (h : wp_X12_drops_b55 Q x3 s0 σ) : wp_X12_drops_b55 Q' x3 s0 σ := by
  unfold wp_X12_drops_b55 at h ⊢
  intro σ6 eσ6; replace h := h σ6 eσ6; have fσ6 : Fr S_X12_drops σ0 σ6 := by rw [eσ6]; exact f0.up rfl
  refine ⟨fun hc => ?_, fun hc => ?_⟩
  · replace h := h.1 hc
    exact hq _ _ h fσ6
  · replace h := h.2 hc
    exact hq _ _ h fσ6
set_option maxHeartbeats 1000000 in
theorem mf_X12_drops {Q Q' : Int → St → Prop} {σ0 : St} (hq : ∀ (r : Int) (σ1 : St), Q r σ1 → Fr S_X12_drops σ0 σ1 → Q' r σ1) {x1 x2 : Int} {σ : St} (f0 : Fr S_X12_drops σ0 σ) (h : wp_X12_drops x1 x2 σ Q) : wp_X12_drops x1 x2 σ Q' := by
  unfold wp_X12_drops at h ⊢
  refine mf_X12_isRule (fun r1 σ2 h gσ2 => ?_) Fr.rf h
  have fσ2 : Fr S_X12_drops σ0 σ2 := f0.tr gσ2 (mkS_sub (by decide) (by decide))
  refine ⟨fun hc => ?_, fun hc => ?_⟩
  · replace h := h.1 hc
    exact hq _ _ h fσ2
  · replace h := h.2 hc
    refine mf_X12_in (fun r3 σ4 h gσ4 => ?_) Fr.rf h
    have fσ4 : Fr S_X12_drops σ0 σ4 := fσ2.tr gσ4 (mkS_sub (by decide) (by decide))
    refine ⟨fun hc => ?_, fun hc => ?_⟩
    · replace h := h.1 hc
      intro v5 ev5; replace h := h v5 ev5
      refine ⟨fun hc => ?_, fun hc => ?_⟩
      · replace h := h.1 hc
        exact mf_X12_drops_b55 hq fσ4 h
      · replace h := h.2 hc
        exact mf_X12_drops_b55 hq fσ4 h
    · replace h := h.2 hc
      exact hq _ _ h fσ4
set_option maxHeartbeats 1000000 in
theorem mf_X12_prices {Q Q' : Int → St → Prop} {σ0 : St} (hq : ∀ (r : Int) (σ1 : St), Q r σ1 → Fr S_X12_prices σ0 σ1 → Q' r σ1) {x1 x2 : Int} {σ : St} (f0 : Fr S_X12_prices σ0 σ) (h : wp_X12_prices x1 x2 σ Q) : wp_X12_prices x1 x2 σ Q' := by
  unfold wp_X12_prices at h ⊢
  refine mf_X12_isRule (fun r1 σ2 h gσ2 => ?_) Fr.rf h
  have fσ2 : Fr S_X12_prices σ0 σ2 := f0.tr gσ2 (mkS_sub (by decide) (by decide))
  refine ⟨fun hc => ?_, fun hc => ?_⟩
  · replace h := h.1 hc
    exact hq _ _ h fσ2
  · replace h := h.2 hc
    refine mf_X12_in (fun r3 σ4 h gσ4 => ?_) Fr.rf h
    have fσ4 : Fr S_X12_prices σ0 σ4 := fσ2.tr gσ4 (mkS_sub (by decide) (by decide))
    refine ⟨fun hc => ?_, fun hc => ?_⟩
    · replace h := h.1 hc
      refine ⟨h.1, ?_⟩; replace h := h.2
      intro v5 ev5; replace h := h v5 ev5
      refine ⟨h.1, fun σ6 eσ6 => ?_⟩; replace h := h.2 σ6 eσ6; have fσ6 : Fr S_X12_prices σ0 σ6 := by rw [eσ6]; exact fσ4.up rfl
      exact hq _ _ h fσ6
    · replace h := h.2 hc
      exact hq _ _ h fσ4
set_option maxHeartbeats 1000000 in
theorem mf_X12_elements {Q Q' : Int → St → Prop} {σ0 : St} (hq : ∀ (r : Int) (σ1 : St), Q r σ1 → Fr S_X12_elements σ0 σ1 → Q' r σ1) {x1 x2 : Int} {σ : St} (f0 : Fr S_X12_elements σ0 σ) (h : wp_X12_elements x1 x2 σ Q) : wp_X12_elements x1 x2 σ Q' := by
  unfold wp_X12_elements at h ⊢
  refine mf_X12_isRule (fun r1 σ2 h gσ2 => ?_) Fr.rf h
  have fσ2 : Fr S_X12_elements σ0 σ2 := f0.tr gσ2 (mkS_sub (by decide) (by decide))
  refine ⟨fun hc => ?_, fun hc => ?_⟩
  · replace h := h.1 hc
    exact hq _ _ h fσ2
  · replace h := h.2 hc
    refine mf_X12_isElement (fun r3 σ4 h gσ4 => ?_) Fr.rf h
    have fσ4 : Fr S_X12_elements σ0 σ4 := fσ2.tr gσ4 (mkS_sub (by decide) (by decide))
    refine ⟨fun hc => ?_, fun hc => ?_⟩
    · replace h := h.1 hc
      refine ⟨h.1, ?_⟩; replace h := h.2
      intro v5 ev5; replace h := h v5 ev5
      refine ⟨h.1, fun σ6 eσ6 => ?_⟩; replace h := h.2 σ6 eσ6; have fσ6 : Fr S_X12_elements σ0 σ6 := by rw [eσ6]; exact fσ4.up rfl
      exact hq _ _ h fσ6
    · replace h := h.2 hc
      exact hq _ _ h fσ4
set_option maxHeartbeats 1000000 in
theorem mf_X12_isItem_b33 {Q Q' : Int → St → Prop} {σ0 : St} (hq : ∀ (r : Int) (σ1 : St), Q r σ1 → Fr S_X12_isItem σ0 σ1 → Q' r σ1) {σ : St} (f0 : Fr S_X12_isItem σ0 σ) (h : wp_X12_isItem_b33 Q  σ) : wp_X12_isItem_b33 Q'  σ := by
  unfold wp_X12_isItem_b33 at h ⊢
  exact hq _ _ h f0
set_option maxHeartbeats 1000000 in
theorem mf_X12_isItem {Q Q' : Int → St → Prop} {σ0 : St} (hq : ∀ (r : Int) (σ1 : St), Q r σ1 → Fr S_X12_isItem σ0 σ1 → Q' r σ1) {x1 x2 x3 : Int} {σ : St} (f0 : Fr S_X12_isItem σ0 σ) (h : wp_X12_isItem x1 x2 x3 σ Q) : wp_X12_isItem x1 x2 x3 σ Q' := by
  unfold wp_X12_isItem at h ⊢
  refine mf_X12_in (fun r1 σ2 h gσ2 => ?_) Fr.rf h
  have fσ2 : Fr S_X12_isItem σ0 σ2 := f0.tr gσ2 (mkS_sub (by decide) (by decide))
  refine ⟨fun hc => ?_, fun hc => ?_⟩
  · replace h := h.1 hc
    exact mf_X12_isItem_b33 hq fσ2 h
  · replace h := h.2 hc
    refine ⟨fun hc => ?_, fun hc => ?_⟩
    · replace h := h.1 hc
      exact mf_X12_isItem_b33 hq fσ2 h
    · replace h := h.2 hc
      refine ⟨fun hc => ?_, fun hc => ?_⟩
      · replace h := h.1 hc
        exact mf_X12_isItem_b33 hq fσ2 h
      · replace h := h.2 hc
        refine ⟨fun hc => ?_, fun hc => ?_⟩
        · replace h := h.1 hc
          exact mf_X12_isItem_b33 hq fσ2 h
        · replace h := h.2 hc
          exact hq _ _ h fσ2
set_option maxHeartbeats 1000000 in
theorem mf_X12_isIn {Q Q' : Int → St → Prop} {σ0 : St} (hq : ∀ (r : Int) (σ1 : St), Q r σ1 → Fr S_X12_isIn σ0 σ1 → Q' r σ1) {x1 : Int} {σ : St} (f0 : Fr S_X12_isIn σ0 σ) (h : wp_X12_isIn x1 σ Q) : wp_X12_isIn x1 σ Q' := by
  unfold wp_X12_isIn at h ⊢
  refine ⟨fun hc => ?_, fun hc => ?_⟩
  · replace h := h.1 hc
    exact hq _ _ h f0
  · replace h := h.2 hc
    exact hq _ _ h f0
set_option maxHeartbeats 1000000 in
theorem mf_X12_item {Q Q' : Int → St → Prop} {σ0 : St} (hq : ∀ (r : Int) (σ1 : St), Q r σ1 → Fr S_X12_item σ0 σ1 → Q' r σ1) {x0 x1 x2 : Int} {σ : St} (f0 : Fr S_X12_item σ0 σ) (h : wp_X12_item x0 x1 x2 σ Q) : wp_X12_item x0 x1 x2 σ Q' := by
  unfold wp_X12_item at h ⊢
  exact hq _ _ h f0
set_option maxHeartbeats 1000000 in
theorem mf_X12_fits_b30 {Q Q' : Int → St → Prop} {σ0 : St} (hq : ∀ (r : Int) (σ1 : St), Q r σ1 → Fr S_X12_fits σ0 σ1 → Q' r σ1) {σ : St} (f0 : Fr S_X12_fits σ0 σ) (h : wp_X12_fits_b30 Q  σ) : wp_X12_fits_b30 Q'  σ := by
  unfold wp_X12_fits_b30 at h ⊢
  exact hq _ _ h f0
set_option maxHeartbeats 1000000 in
theorem mf_X12_fits {Q Q' : Int → St → Prop} {σ0 : St} (hq : ∀ (r : Int) (σ1 : St), Q r σ1 → Fr S_X12_fits σ0 σ1 → Q' r σ1) {x1 x2 x3 : Int} {σ : St} (f0 : Fr S_X12_fits σ0 σ) (h : wp_X12_fits x1 x2 x3 σ Q) : wp_X12_fits x1 x2 x3 σ Q' := by
  unfold wp_X12_fits at h ⊢
  refine ⟨fun hc => ?_, fun hc => ?_⟩
  · replace h := h.1 hc
    refine mf_X12_item (fun r1 σ2 h gσ2 => ?_) Fr.rf h
    have fσ2 : Fr S_X12_fits σ0 σ2 := f0.tr gσ2 (mkS_sub (by decide) (by decide))
    refine ⟨h.1, ?_⟩; replace h := h.2
    refine ⟨fun hc => ?_, fun hc => ?_⟩
    · replace h := h.1 hc
      exact hq _ _ h fσ2
    · replace h := h.2 hc
      exact hq _ _ h fσ2
  · replace h := h.2 hc
    refine ⟨fun hc => ?_, fun hc => ?_⟩
    · replace h := h.1 hc
      exact mf_X12_fits_b30 hq f0 h
    · replace h := h.2 hc
      refine ⟨h.1, ?_⟩; replace h := h.2
      refine ⟨fun hc => ?_, fun hc => ?_⟩
      · replace h := h.1 hc
        exact mf_X12_fits_b30 hq f0 h
      · replace h := h.2 hc
        exact hq _ _ h f0
set_option maxHeartbeats 1000000 in
theorem mf_X12_leastPart {Q Q' : Int → St → Prop} {σ0 : St} (hq : ∀ (r : Int) (σ1 : St), Q r σ1 → Fr S_X12_leastPart σ0 σ1 → Q' r σ1) {x1 x2 x3 : Int} {σ : St} (f0 : Fr S_X12_leastPart σ0 σ) (h : wp_X12_leastPart x1 x2 x3 σ Q) : wp_X12_leastPart x1 x2 x3 σ Q' := by
  unfold wp_X12_leastPart at h ⊢
  refine ⟨fun hc => ?_, fun hc => ?_⟩
  · replace h := h.1 hc
    refine mf_X12_item (fun r1 σ2 h gσ2 => ?_) Fr.rf h
    have fσ2 : Fr S_X12_leastPart σ0 σ2 := f0.tr gσ2 (mkS_sub (by decide) (by decide))
    refine ⟨h.1, ?_⟩; replace h := h.2
    exact hq _ _ h fσ2
  · replace h := h.2 hc
    exact hq _ _ h f0
set_option maxHeartbeats 1000000 in
theorem mf_X12_lowers {Q Q' : Int → St → Prop} {σ0 : St} (hq : ∀ (r : Int) (σ1 : St), Q r σ1 → Fr S_X12_lowers σ0 σ1 → Q' r σ1) {x1 x2 x3 x4 : Int} {σ : St} (f0 : Fr S_X12_lowers σ0 σ) (h : wp_X12_lowers x1 x2 x3 x4 σ Q) : wp_X12_lowers x1 x2 x3 x4 σ Q' := by
  unfold wp_X12_lowers at h ⊢
  refine mf_X12_item (fun r1 σ2 h gσ2 => ?_) Fr.rf h
  have fσ2 : Fr S_X12_lowers σ0 σ2 := f0.tr gσ2 (mkS_sub (by decide) (by decide))
  refine ⟨h.1, ?_⟩; replace h := h.2
  refine ⟨fun hc => ?_, fun hc => ?_⟩
  · replace h := h.1 hc
    refine mf_X12_item (fun r3 σ4 h gσ4 => ?_) Fr.rf h
    have fσ4 : Fr S_X12_lowers σ0 σ4 := fσ2.tr gσ4 (mkS_sub (by decide) (by decide))
    refine ⟨h.1, fun σ5 eσ5 => ?_⟩; replace h := h.2 σ5 eσ5; have fσ5 : Fr S_X12_lowers σ0 σ5 := by rw [eσ5]; exact fσ4.up rfl
    exact hq _ _ h fσ5
  · replace h := h.2 hc
    exact hq _ _ h fσ2
set_option maxHeartbeats 1000000 in
theorem mf_X12_laysTwos_b90 {Q Q' : Int → St → Prop} {σ0 : St} (hq : ∀ (r : Int) (σ1 : St), Q r σ1 → Fr S_X12_laysTwos σ0 σ1 → Q' r σ1) {K5 K5' : Int → Int → Int → Int → St → Prop} (hK5 : ∀ (x1 : Int) (x2 : Int) (x3 : Int) (x4 : Int) (σ : St), Fr S_X12_laysTwos σ0 σ → K5 x1 x2 x3 x4 σ → K5' x1 x2 x3 x4 σ) {x1 x2 x3 x4 : Int} {σ : St} (f0 : Fr S_X12_laysTwos σ0 σ) (h : wp_X12_laysTwos_b90 Q K5 x1 x2 x3 x4 σ) : wp_X12_laysTwos_b90 Q' K5' x1 x2 x3 x4 σ := by
  unfold wp_X12_laysTwos_b90 at h ⊢
  intro v12 ev12; replace h := h v12 ev12
  exact hK5 _ _ _ _ _ f0 h
set_option maxHeartbeats 1000000 in
theorem mf_X12_laysTwos_l5 {Q Q' : Int → St → Prop} {σ0 : St} (hq : ∀ (r : Int) (σ1 : St), Q r σ1 → Fr S_X12_laysTwos σ0 σ1 → Q' r σ1) : ∀ (n : Nat) (x1 : Int) (x2 : Int) (x3 : Int) (x4 : Int) (σ : St), Fr S_X12_laysTwos σ0 σ → wp_X12_laysTwos_l5 Q n x1 x2 x3 x4 σ → wp_X12_laysTwos_l5 Q' n x1 x2 x3 x4 σ := by
  intro n
  induction n with
  | zero => intro _ _ _ _ _ _ h; exact h.elim
  | succ n ih =>
    intro x1 x2 x3 x4 σ f0 h
    unfold wp_X12_laysTwos_l5 at h ⊢
    refine ⟨fun hc => ?_, fun hc => ?_⟩
    · replace h := h.1 hc
      exact hq _ _ h f0
    · replace h := h.2 hc
      refine ⟨h.1, ?_⟩; replace h := h.2
      refine mf_X12_fits (fun r2 σ3 h gσ3 => ?_) Fr.rf h
      have fσ3 : Fr S_X12_laysTwos σ0 σ3 := f0.tr gσ3 (mkS_sub (by decide) (by decide))
      refine ⟨fun hc => ?_, fun hc => ?_⟩
      · replace h := h.1 hc
        exact mf_X12_laysTwos_b90 hq ih fσ3 h
      · replace h := h.2 hc
        refine ⟨h.1, ?_⟩; replace h := h.2
        refine mf_X12_fits (fun r4 σ5 h gσ5 => ?_) Fr.rf h
        have fσ5 : Fr S_X12_laysTwos σ0 σ5 := fσ3.tr gσ5 (mkS_sub (by decide) (by decide))
        refine ⟨fun hc => ?_, fun hc => ?_⟩
        · replace h := h.1 hc
          exact mf_X12_laysTwos_b90 hq ih fσ5 h
        · replace h := h.2 hc
          refine ⟨h.1, ?_⟩; replace h := h.2
          refine ⟨h.1, ?_⟩; replace h := h.2
          refine ⟨h.1, ?_⟩; replace h := h.2
          refine mf_X12_leastPart (fun r6 σ7 h gσ7 => ?_) Fr.rf h
          have fσ7 : Fr S_X12_laysTwos σ0 σ7 := fσ5.tr gσ7 (mkS_sub (by decide) (by decide))
          refine ⟨h.1, ?_⟩; replace h := h.2
          refine mf_X12_leastPart (fun r8 σ9 h gσ9 => ?_) Fr.rf h
          have fσ9 : Fr S_X12_laysTwos σ0 σ9 := fσ7.tr gσ9 (mkS_sub (by decide) (by decide))
          refine mf_X12_lowers (fun r10 σ11 h gσ11 => ?_) Fr.rf h
          have fσ11 : Fr S_X12_laysTwos σ0 σ11 := fσ9.tr gσ11 (mkS_sub (by decide) (by decide))
          exact mf_X12_laysTwos_b90 hq ih fσ11 h
set_option maxHeartbeats 1000000 in
theorem mf_X12_laysTwos {Q Q' : Int → St → Prop} {σ0 : St} (hq : ∀ (r : Int) (σ1 : St), Q r σ1 → Fr S_X12_laysTwos σ0 σ1 → Q' r σ1) {x1 x2 x3 : Int} {σ : St} (f0 : Fr S_X12_laysTwos σ0 σ) (h : wp_X12_laysTwos x1 x2 x3 σ Q) : wp_X12_laysTwos x1 x2 x3 σ Q' := by
  unfold wp_X12_laysTwos at h ⊢
  intro v1 ev1; replace h := h v1 ev1
  exact mf_X12_laysTwos_l5 hq bigN _ _ _ _ _ f0 h
set_option maxHeartbeats 1000000 in
theorem mf_X12_laysSpan_b35 {Q Q' : Int → St → Prop} {σ0 : St} (hq : ∀ (r : Int) (σ1 : St), Q r σ1 → Fr S_X12_laysSpan σ0 σ1 → Q' r σ1) {K2 K2' : Int → Int → Int → St → Prop} (hK2 : ∀ (x1 : Int) (x2 : Int) (x3 : Int) (σ : St), Fr S_X12_laysSpan σ0 σ → K2 x1 x2 x3 σ → K2' x1 x2 x3 σ) {x1 x2 x3 : Int} {σ : St} (f0 : Fr S_X12_laysSpan σ0 σ) (h : wp_X12_laysSpan_b35 Q K2 x1 x2 x3 σ) : wp_X12_laysSpan_b35 Q' K2' x1 x2 x3 σ := by
  unfold wp_X12_laysSpan_b35 at h ⊢
  intro v5 ev5; replace h := h v5 ev5
  exact hK2 _ _ _ _ f0 h
set_option maxHeartbeats 1000000 in
theorem mf_X12_laysSpan_b144 {Q Q' : Int → St → Prop} {σ0 : St} (hq : ∀ (r : Int) (σ1 : St), Q r σ1 → Fr S_X12_laysSpan σ0 σ1 → Q' r σ1) {K43 K43' : Int → Int → Int → St → Prop} (hK43 : ∀ (x1 : Int) (x2 : Int) (x3 : Int) (σ : St), Fr S_X12_laysSpan σ0 σ → K43 x1 x2 x3 σ → K43' x1 x2 x3 σ) {K52 K52' : Int → Int → Int → Int → St → Prop} (hK52 : ∀ (x1 : Int) (x2 : Int) (x3 : Int) (x4 : Int) (σ : St), Fr S_X12_laysSpan σ0 σ → K52 x1 x2 x3 x4 σ → K52' x1 x2 x3 x4 σ) {x1 x2 x3 x4 : Int} {σ : St} (f0 : Fr S_X12_laysSpan σ0 σ) (h : wp_X12_laysSpan_b144 Q K43 K52 x1 x2 x3 x4 σ) : wp_X12_laysSpan_b144 Q' K43' K52' x1 x2 x3 x4 σ := by
  unfold wp_X12_laysSpan_b144 at h ⊢
  intro v14 ev14; replace h := h v14 ev14
  exact hK52 _ _ _ _ _ f0 h
set_option maxHeartbeats 1000000 in
theorem mf_X12_laysSpan_b143 {Q Q' : Int → St → Prop} {σ0 : St} (hq : ∀ (r : Int) (σ1 : St), Q r σ1 → Fr S_X12_laysSpan σ0 σ1 → Q' r σ1) {K43 K43' : Int → Int → Int → St → Prop} (hK43 : ∀ (x1 : Int) (x2 : Int) (x3 : Int) (σ : St), Fr S_X12_laysSpan σ0 σ → K43 x1 x2 x3 σ → K43' x1 x2 x3 σ) {K52 K52' : Int → Int → Int → Int → St → Prop} (hK52 : ∀ (x1 : Int) (x2 : Int) (x3 : Int) (x4 : Int) (σ : St), Fr S_X12_laysSpan σ0 σ → K52 x1 x2 x3 x4 σ → K52' x1 x2 x3 x4 σ) {x1 x2 x4 s0 : Int} {σ : St} (f0 : Fr S_X12_laysSpan σ0 σ) (h : wp_X12_laysSpan_b143 Q K43 K52 x1 x2 x4 s0 σ) : wp_X12_laysSpan_b143 Q' K43' K52' x1 x2 x4 s0 σ := by
  unfold wp_X12_laysSpan_b143 at h ⊢
  exact mf_X12_laysSpan_b144 hq hK43 hK52 f0 h
set_option maxHeartbeats 1000000 in
theorem mf_X12_laysSpan_b138 {Q Q' : Int → St → Prop} {σ0 : St} (hq : ∀ (r : Int) (σ1 : St), Q r σ1 → Fr S_X12_laysSpan σ0 σ1 → Q' r σ1) {K43 K43' : Int → Int → Int → St → Prop} (hK43 : ∀ (x1 : Int) (x2 : Int) (x3 : Int) (σ : St), Fr S_X12_laysSpan σ0 σ → K43 x1 x2 x3 σ → K43' x1 x2 x3 σ) {K52 K52' : Int → Int → Int → Int → St → Prop} (hK52 : ∀ (x1 : Int) (x2 : Int) (x3 : Int) (x4 : Int) (σ : St), Fr S_X12_laysSpan σ0 σ → K52 x1 x2 x3 x4 σ → K52' x1 x2 x3 x4 σ) {x1 x2 x4 : Int} {σ : St} (f0 : Fr S_X12_laysSpan σ0 σ) (h : wp_X12_laysSpan_b138 Q K43 K52 x1 x2 x4 σ) : wp_X12_laysSpan_b138 Q' K43' K52' x1 x2 x4 σ := by
  unfold wp_X12_laysSpan_b138 at h ⊢
  exact mf_X12_laysSpan_b143 hq hK43 hK52 f0 h
set_option maxHeartbeats 1000000 in
theorem mf_X12_laysSpan_l52 {Q Q' : Int → St → Prop} {σ0 : St} (hq : ∀ (r : Int) (σ1 : St), Q r σ1 → Fr S_X12_laysSpan σ0 σ1 → Q' r σ1) {K43 K43' : Int → Int → Int → St → Prop} (hK43 : ∀ (x1 : Int) (x2 : Int) (x3 : Int) (σ : St), Fr S_X12_laysSpan σ0 σ → K43 x1 x2 x3 σ → K43' x1 x2 x3 σ) : ∀ (n : Nat) (x1 : Int) (x2 : Int) (x3 : Int) (x4 : Int) (σ : St), Fr S_X12_laysSpan σ0 σ → wp_X12_laysSpan_l52 Q K43 n x1 x2 x3 x4 σ → wp_X12_laysSpan_l52 Q' K43' n x1 x2 x3 x4 σ := by
  intro n
  induction n with
  | zero => intro _ _ _ _ _ _ h; exact h.elim
  | succ n ih =>
    intro x1 x2 x3 x4 σ f0 h
    unfold wp_X12_laysSpan_l52 at h ⊢
    refine ⟨fun hc => ?_, fun hc => ?_⟩
    · replace h := h.1 hc
      exact hK43 _ _ _ _ f0 h
    · replace h := h.2 hc
      refine mf_X12_isIn (fun r6 σ7 h gσ7 => ?_) Fr.rf h
      have fσ7 : Fr S_X12_laysSpan σ0 σ7 := f0.tr gσ7 (mkS_sub (by decide) (by decide))
      refine ⟨fun hc => ?_, fun hc => ?_⟩
      · replace h := h.1 hc
        exact mf_X12_laysSpan_b144 hq hK43 ih fσ7 h
      · replace h := h.2 hc
        refine ⟨h.1, ?_⟩; replace h := h.2
        refine ⟨fun hc => ?_, fun hc => ?_⟩
        · replace h := h.1 hc
          exact mf_X12_laysSpan_b144 hq hK43 ih fσ7 h
        · replace h := h.2 hc
          refine ⟨h.1, ?_⟩; replace h := h.2
          refine mf_X12_fits (fun r8 σ9 h gσ9 => ?_) Fr.rf h
          have fσ9 : Fr S_X12_laysSpan σ0 σ9 := fσ7.tr gσ9 (mkS_sub (by decide) (by decide))
          refine ⟨fun hc => ?_, fun hc => ?_⟩
          · replace h := h.1 hc
            exact mf_X12_laysSpan_b144 hq hK43 ih fσ9 h
          · replace h := h.2 hc
            refine ⟨h.1, ?_⟩; replace h := h.2
            refine ⟨h.1, ?_⟩; replace h := h.2
            refine ⟨h.1, ?_⟩; replace h := h.2
            refine mf_X12_leastPart (fun r10 σ11 h gσ11 => ?_) Fr.rf h
            have fσ11 : Fr S_X12_laysSpan σ0 σ11 := fσ9.tr gσ11 (mkS_sub (by decide) (by decide))
            refine mf_X12_lowers (fun r12 σ13 h gσ13 => ?_) Fr.rf h
            have fσ13 : Fr S_X12_laysSpan σ0 σ13 := fσ11.tr gσ13 (mkS_sub (by decide) (by decide))
            refine ⟨fun hc => ?_, fun hc => ?_⟩
            · replace h := h.1 hc
              exact mf_X12_laysSpan_b138 hq hK43 ih fσ13 h
            · replace h := h.2 hc
              refine ⟨fun hc => ?_, fun hc => ?_⟩
              · replace h := h.1 hc
                exact mf_X12_laysSpan_b143 hq hK43 ih fσ13 h
              · replace h := h.2 hc
                exact mf_X12_laysSpan_b138 hq hK43 ih fσ13 h
set_option maxHeartbeats 1000000 in
theorem mf_X12_laysSpan_l43 {Q Q' : Int → St → Prop} {σ0 : St} (hq : ∀ (r : Int) (σ1 : St), Q r σ1 → Fr S_X12_laysSpan σ0 σ1 → Q' r σ1) : ∀ (n : Nat) (x1 : Int) (x2 : Int) (x3 : Int) (σ : St), Fr S_X12_laysSpan σ0 σ → wp_X12_laysSpan_l43 Q n x1 x2 x3 σ → wp_X12_laysSpan_l43 Q' n x1 x2 x3 σ := by
  intro n
  induction n with
  | zero => intro _ _ _ _ _ h; exact h.elim
  | succ n ih =>
    intro x1 x2 x3 σ f0 h
    unfold wp_X12_laysSpan_l43 at h ⊢
    refine ⟨fun hc => ?_, fun hc => ?_⟩
    · replace h := h.1 hc
      exact hq _ _ h f0
    · replace h := h.2 hc
      exact mf_X12_laysSpan_l52 hq ih bigN _ _ _ _ _ f0 h
set_option maxHeartbeats 1000000 in
theorem mf_X12_laysSpan_l2 {Q Q' : Int → St → Prop} {σ0 : St} (hq : ∀ (r : Int) (σ1 : St), Q r σ1 → Fr S_X12_laysSpan σ0 σ1 → Q' r σ1) : ∀ (n : Nat) (x1 : Int) (x2 : Int) (x3 : Int) (σ : St), Fr S_X12_laysSpan σ0 σ → wp_X12_laysSpan_l2 Q n x1 x2 x3 σ → wp_X12_laysSpan_l2 Q' n x1 x2 x3 σ := by
  intro n
  induction n with
  | zero => intro _ _ _ _ _ h; exact h.elim
  | succ n ih =>
    intro x1 x2 x3 σ f0 h
    unfold wp_X12_laysSpan_l2 at h ⊢
    refine ⟨fun hc => ?_, fun hc => ?_⟩
    · replace h := h.1 hc
      exact mf_X12_laysSpan_l43 hq bigN _ _ _ _ f0 h
    · replace h := h.2 hc
      refine mf_X12_isIn (fun r1 σ2 h gσ2 => ?_) Fr.rf h
      have fσ2 : Fr S_X12_laysSpan σ0 σ2 := f0.tr gσ2 (mkS_sub (by decide) (by decide))
      refine ⟨fun hc => ?_, fun hc => ?_⟩
      · replace h := h.1 hc
        exact mf_X12_laysSpan_b35 hq ih fσ2 h
      · replace h := h.2 hc
        refine ⟨h.1, ?_⟩; replace h := h.2
        refine ⟨fun hc => ?_, fun hc => ?_⟩
        · replace h := h.1 hc
          exact mf_X12_laysSpan_b35 hq ih fσ2 h
        · replace h := h.2 hc
          refine mf_X12_laysTwos (fun r3 σ4 h gσ4 => ?_) Fr.rf h
          have fσ4 : Fr S_X12_laysSpan σ0 σ4 := fσ2.tr gσ4 (mkS_sub (by decide) (by decide))
          exact mf_X12_laysSpan_b35 hq ih fσ4 h
set_option maxHeartbeats 1000000 in
theorem mf_X12_laysSpan {Q Q' : Int → St → Prop} {σ0 : St} (hq : ∀ (r : Int) (σ1 : St), Q r σ1 → Fr S_X12_laysSpan σ0 σ1 → Q' r σ1) {x1 x2 : Int} {σ : St} (f0 : Fr S_X12_laysSpan σ0 σ) (h : wp_X12_laysSpan x1 x2 σ Q) : wp_X12_laysSpan x1 x2 σ Q' := by
  unfold wp_X12_laysSpan at h ⊢
  exact mf_X12_laysSpan_l2 hq bigN _ _ _ _ f0 h
set_option maxHeartbeats 1000000 in
theorem mf_X12_laysLeast_l42 {Q Q' : Int → St → Prop} {σ0 : St} (hq : ∀ (r : Int) (σ1 : St), Q r σ1 → Fr S_X12_laysLeast σ0 σ1 → Q' r σ1) {K31 K31' : Int → St → Prop} (hK31 : ∀ (x3 : Int) (σ : St), Fr S_X12_laysLeast σ0 σ → K31 x3 σ → K31' x3 σ) : ∀ (n : Nat) (x3 : Int) (x4 : Int) (σ : St), Fr S_X12_laysLeast σ0 σ → wp_X12_laysLeast_l42 Q K31 n x3 x4 σ → wp_X12_laysLeast_l42 Q' K31' n x3 x4 σ := by
  intro n
  induction n with
  | zero => intro _ _ _ _ h; exact h.elim
  | succ n ih =>
    intro x3 x4 σ f0 h
    unfold wp_X12_laysLeast_l42 at h ⊢
    refine ⟨fun hc => ?_, fun hc => ?_⟩
    · replace h := h.1 hc
      intro v4 ev4; replace h := h v4 ev4
      exact hK31 _ _ f0 h
    · replace h := h.2 hc
      refine mf_X12_laysSpan (fun r5 σ6 h gσ6 => ?_) Fr.rf h
      have fσ6 : Fr S_X12_laysLeast σ0 σ6 := f0.tr gσ6 (mkS_sub (by decide) (by decide))
      intro v7 ev7; replace h := h v7 ev7
      exact ih _ _ _ fσ6 h
set_option maxHeartbeats 1000000 in
theorem mf_X12_laysLeast_l31 {Q Q' : Int → St → Prop} {σ0 : St} (hq : ∀ (r : Int) (σ1 : St), Q r σ1 → Fr S_X12_laysLeast σ0 σ1 → Q' r σ1) : ∀ (n : Nat) (x3 : Int) (σ : St), Fr S_X12_laysLeast σ0 σ → wp_X12_laysLeast_l31 Q n x3 σ → wp_X12_laysLeast_l31 Q' n x3 σ := by
  intro n
  induction n with
  | zero => intro _ _ _ h; exact h.elim
  | succ n ih =>
    intro x3 σ f0 h
    unfold wp_X12_laysLeast_l31 at h ⊢
    refine ⟨fun hc => ?_, fun hc => ?_⟩
    · replace h := h.1 hc
      exact hq _ _ h f0
    · replace h := h.2 hc
      exact mf_X12_laysLeast_l42 hq ih bigN _ _ _ f0 h
set_option maxHeartbeats 1000000 in
theorem mf_X12_laysLeast_l7 {Q Q' : Int → St → Prop} {σ0 : St} (hq : ∀ (r : Int) (σ1 : St), Q r σ1 → Fr S_X12_laysLeast σ0 σ1 → Q' r σ1) : ∀ (n : Nat) (x3 : Int) (σ : St), Fr S_X12_laysLeast σ0 σ → wp_X12_laysLeast_l7 Q n x3 σ → wp_X12_laysLeast_l7 Q' n x3 σ := by
  intro n
  induction n with
  | zero => intro _ _ _ h; exact h.elim
  | succ n ih =>
    intro x3 σ f0 h
    unfold wp_X12_laysLeast_l7 at h ⊢
    refine ⟨fun hc => ?_, fun hc => ?_⟩
    · replace h := h.1 hc
      exact mf_X12_laysLeast_l31 hq bigN _ _ f0 h
    · replace h := h.2 hc
      refine ⟨h.1, fun σ2 eσ2 => ?_⟩; replace h := h.2 σ2 eσ2; have fσ2 : Fr S_X12_laysLeast σ0 σ2 := by rw [eσ2]; exact f0.up rfl
      intro v3 ev3; replace h := h v3 ev3
      exact ih _ _ fσ2 h
set_option maxHeartbeats 1000000 in
theorem mf_X12_laysLeast {Q Q' : Int → St → Prop} {σ0 : St} (hq : ∀ (r : Int) (σ1 : St), Q r σ1 → Fr S_X12_laysLeast σ0 σ1 → Q' r σ1) {x1 : Int} {σ : St} (f0 : Fr S_X12_laysLeast σ0 σ) (h : wp_X12_laysLeast x1 σ Q) : wp_X12_laysLeast x1 σ Q' := by
  unfold wp_X12_laysLeast at h ⊢
  intro σ1 eσ1; replace h := h σ1 eσ1; have fσ1 : Fr S_X12_laysLeast σ0 σ1 := by rw [eσ1]; exact f0.up rfl
  exact mf_X12_laysLeast_l7 hq bigN _ _ fσ1 h
set_option maxHeartbeats 1000000 in
theorem mf_X12_looks_l10 {Q Q' : Int → St → Prop} {σ0 : St} (hq : ∀ (r : Int) (σ1 : St), Q r σ1 → Fr S_X12_looks σ0 σ1 → Q' r σ1) : ∀ (n : Nat) (x1 : Int) (σ : St), Fr S_X12_looks σ0 σ → wp_X12_looks_l10 Q n x1 σ → wp_X12_looks_l10 Q' n x1 σ := by
  intro n
  induction n with
  | zero => intro _ _ _ h; exact h.elim
  | succ n ih =>
    intro x1 σ f0 h
    unfold wp_X12_looks_l10 at h ⊢
    refine ⟨fun hc => ?_, fun hc => ?_⟩
    · replace h := h.1 hc
      refine mf_X12_laysLeast (fun r2 σ3 h gσ3 => ?_) Fr.rf h
      have fσ3 : Fr S_X12_looks σ0 σ3 := f0.tr gσ3 (mkS_sub (by decide) (by decide))
      exact hq _ _ h fσ3
    · replace h := h.2 hc
      refine ⟨h.1, ?_⟩; replace h := h.2
      refine ⟨h.1, fun σ4 eσ4 => ?_⟩; replace h := h.2 σ4 eσ4; have fσ4 : Fr S_X12_looks σ0 σ4 := by rw [eσ4]; exact f0.up rfl
      intro v5 ev5; replace h := h v5 ev5
      exact ih _ _ fσ4 h
set_option maxHeartbeats 1000000 in
theorem mf_X12_looks {Q Q' : Int → St → Prop} {σ0 : St} (hq : ∀ (r : Int) (σ1 : St), Q r σ1 → Fr S_X12_looks σ0 σ1 → Q' r σ1) {σ : St} (f0 : Fr S_X12_looks σ0 σ) (h : wp_X12_looks  σ Q) : wp_X12_looks  σ Q' := by
  unfold wp_X12_looks at h ⊢
  intro σ1 eσ1; replace h := h σ1 eσ1; have fσ1 : Fr S_X12_looks σ0 σ1 := by rw [eσ1]; exact f0.up rfl
  exact mf_X12_looks_l10 hq bigN _ _ fσ1 h
set_option maxHeartbeats 1000000 in
theorem mf_X12_has {Q Q' : Int → St → Prop} {σ0 : St} (hq : ∀ (r : Int) (σ1 : St), Q r σ1 → Fr S_X12_has σ0 σ1 → Q' r σ1) {x1 x2 x3 : Int} {σ : St} (f0 : Fr S_X12_has σ0 σ) (h : wp_X12_has x1 x2 x3 σ Q) : wp_X12_has x1 x2 x3 σ Q' := by
  unfold wp_X12_has at h ⊢
  refine mf_X12_item (fun r1 σ2 h gσ2 => ?_) Fr.rf h
  have fσ2 : Fr S_X12_has σ0 σ2 := f0.tr gσ2 (mkS_sub (by decide) (by decide))
  refine ⟨h.1, ?_⟩; replace h := h.2
  refine ⟨fun hc => ?_, fun hc => ?_⟩
  · replace h := h.1 hc
    exact hq _ _ h fσ2
  · replace h := h.2 hc
    exact hq _ _ h fσ2
set_option maxHeartbeats 1000000 in
theorem mf_X12_can {Q Q' : Int → St → Prop} {σ0 : St} (hq : ∀ (r : Int) (σ1 : St), Q r σ1 → Fr S_X12_can σ0 σ1 → Q' r σ1) {x1 x2 x3 : Int} {σ : St} (f0 : Fr S_X12_can σ0 σ) (h : wp_X12_can x1 x2 x3 σ Q) : wp_X12_can x1 x2 x3 σ Q' := by
  unfold wp_X12_can at h ⊢
  refine mf_X12_isItem (fun r1 σ2 h gσ2 => ?_) Fr.rf h
  have fσ2 : Fr S_X12_can σ0 σ2 := f0.tr gσ2 (mkS_sub (by decide) (by decide))
  refine ⟨fun hc => ?_, fun hc => ?_⟩
  · replace h := h.1 hc
    refine mf_X12_looks (fun r3 σ4 h gσ4 => ?_) Fr.rf h
    have fσ4 : Fr S_X12_can σ0 σ4 := fσ2.tr gσ4 (mkS_sub (by decide) (by decide))
    refine mf_X12_has (fun r5 σ6 h gσ6 => ?_) Fr.rf h
    have fσ6 : Fr S_X12_can σ0 σ6 := fσ4.tr gσ6 (mkS_sub (by decide) (by decide))
    refine ⟨fun hc => ?_, fun hc => ?_⟩
    · replace h := h.1 hc
      exact hq _ _ h fσ6
    · replace h := h.2 hc
      exact hq _ _ h fσ6
  · replace h := h.2 hc
    exact hq _ _ h fσ2
set_option maxHeartbeats 1000000 in
theorem mf_X12_least {Q Q' : Int → St → Prop} {σ0 : St} (hq : ∀ (r : Int) (σ1 : St), Q r σ1 → Fr S_X12_least σ0 σ1 → Q' r σ1) {x1 x2 x3 : Int} {σ : St} (f0 : Fr S_X12_least σ0 σ) (h : wp_X12_least x1 x2 x3 σ Q) : wp_X12_least x1 x2 x3 σ Q' := by
  unfold wp_X12_least at h ⊢
  refine mf_X12_isItem (fun r1 σ2 h gσ2 => ?_) Fr.rf h
  have fσ2 : Fr S_X12_least σ0 σ2 := f0.tr gσ2 (mkS_sub (by decide) (by decide))
  refine ⟨fun hc => ?_, fun hc => ?_⟩
  · replace h := h.1 hc
    refine mf_X12_looks (fun r3 σ4 h gσ4 => ?_) Fr.rf h
    have fσ4 : Fr S_X12_least σ0 σ4 := fσ2.tr gσ4 (mkS_sub (by decide) (by decide))
    refine mf_X12_has (fun r5 σ6 h gσ6 => ?_) Fr.rf h
    have fσ6 : Fr S_X12_least σ0 σ6 := fσ4.tr gσ6 (mkS_sub (by decide) (by decide))
    refine ⟨fun hc => ?_, fun hc => ?_⟩
    · replace h := h.1 hc
      exact hq _ _ h fσ6
    · replace h := h.2 hc
      refine mf_X12_item (fun r7 σ8 h gσ8 => ?_) Fr.rf h
      have fσ8 : Fr S_X12_least σ0 σ8 := fσ6.tr gσ8 (mkS_sub (by decide) (by decide))
      refine ⟨h.1, ?_⟩; replace h := h.2
      exact hq _ _ h fσ8
  · replace h := h.2 hc
    exact hq _ _ h fσ2
set_option maxHeartbeats 1000000 in
theorem mf_X12_isSingle_b33 {Q Q' : Int → St → Prop} {σ0 : St} (hq : ∀ (r : Int) (σ1 : St), Q r σ1 → Fr S_X12_isSingle σ0 σ1 → Q' r σ1) {σ : St} (f0 : Fr S_X12_isSingle σ0 σ) (h : wp_X12_isSingle_b33 Q  σ) : wp_X12_isSingle_b33 Q'  σ := by
  unfold wp_X12_isSingle_b33 at h ⊢
  exact hq _ _ h f0
set_option maxHeartbeats 1000000 in
theorem mf_X12_isSingle {Q Q' : Int → St → Prop} {σ0 : St} (hq : ∀ (r : Int) (σ1 : St), Q r σ1 → Fr S_X12_isSingle σ0 σ1 → Q' r σ1) {x1 : Int} {σ : St} (f0 : Fr S_X12_isSingle σ0 σ) (h : wp_X12_isSingle x1 σ Q) : wp_X12_isSingle x1 σ Q' := by
  unfold wp_X12_isSingle at h ⊢
  refine mf_X12_isIn (fun r1 σ2 h gσ2 => ?_) Fr.rf h
  have fσ2 : Fr S_X12_isSingle σ0 σ2 := f0.tr gσ2 (mkS_sub (by decide) (by decide))
  refine ⟨fun hc => ?_, fun hc => ?_⟩
  · replace h := h.1 hc
    exact mf_X12_isSingle_b33 hq fσ2 h
  · replace h := h.2 hc
    refine ⟨h.1, ?_⟩; replace h := h.2
    refine ⟨fun hc => ?_, fun hc => ?_⟩
    · replace h := h.1 hc
      exact mf_X12_isSingle_b33 hq fσ2 h
    · replace h := h.2 hc
      refine ⟨h.1, ?_⟩; replace h := h.2
      refine ⟨fun hc => ?_, fun hc => ?_⟩
      · replace h := h.1 hc
        exact mf_X12_isSingle_b33 hq fσ2 h
      · replace h := h.2 hc
        exact hq _ _ h fσ2
set_option maxHeartbeats 1000000 in
theorem mf_X12_ringsAt_b81 {Q Q' : Int → St → Prop} {σ0 : St} (hq : ∀ (r : Int) (σ1 : St), Q r σ1 → Fr S_X12_ringsAt σ0 σ1 → Q' r σ1) {K23 K23' : Int → Int → Int → St → Prop} (hK23 : ∀ (x1 : Int) (x2 : Int) (x3 : Int) (σ : St), Fr S_X12_ringsAt σ0 σ → K23 x1 x2 x3 σ → K23' x1 x2 x3 σ) {x1 x2 x3 : Int} {σ : St} (f0 : Fr S_X12_ringsAt σ0 σ) (h : wp_X12_ringsAt_b81 Q K23 x1 x2 x3 σ) : wp_X12_ringsAt_b81 Q' K23' x1 x2 x3 σ := by
  unfold wp_X12_ringsAt_b81 at h ⊢
  intro v7 ev7; replace h := h v7 ev7
  exact hK23 _ _ _ _ f0 h
set_option maxHeartbeats 1000000 in
theorem mf_X12_ringsAt_b59 {Q Q' : Int → St → Prop} {σ0 : St} (hq : ∀ (r : Int) (σ1 : St), Q r σ1 → Fr S_X12_ringsAt σ0 σ1 → Q' r σ1) {K23 K23' : Int → Int → Int → St → Prop} (hK23 : ∀ (x1 : Int) (x2 : Int) (x3 : Int) (σ : St), Fr S_X12_ringsAt σ0 σ → K23 x1 x2 x3 σ → K23' x1 x2 x3 σ) {x1 x2 x3 : Int} {σ : St} (f0 : Fr S_X12_ringsAt σ0 σ) (h : wp_X12_ringsAt_b59 Q K23 x1 x2 x3 σ) : wp_X12_ringsAt_b59 Q' K23' x1 x2 x3 σ := by
  unfold wp_X12_ringsAt_b59 at h ⊢
  refine ⟨h.1, ?_⟩; replace h := h.2
  refine ⟨h.1, ?_⟩; replace h := h.2
  refine ⟨h.1, ?_⟩; replace h := h.2
  refine ⟨h.1, fun σ8 eσ8 => ?_⟩; replace h := h.2 σ8 eσ8; have fσ8 : Fr S_X12_ringsAt σ0 σ8 := by rw [eσ8]; exact f0.up rfl
  exact mf_X12_ringsAt_b81 hq hK23 fσ8 h
set_option maxHeartbeats 1000000 in
theorem mf_X12_ringsAt_b136 {Q Q' : Int → St → Prop} {σ0 : St} (hq : ∀ (r : Int) (σ1 : St), Q r σ1 → Fr S_X12_ringsAt σ0 σ1 → Q' r σ1) {K89 K89' : Int → St → Prop} (hK89 : ∀ (x3 : Int) (σ : St), Fr S_X12_ringsAt σ0 σ → K89 x3 σ → K89' x3 σ) {K98 K98' : Int → Int → St → Prop} (hK98 : ∀ (x3 : Int) (x4 : Int) (σ : St), Fr S_X12_ringsAt σ0 σ → K98 x3 x4 σ → K98' x3 x4 σ) {x3 x4 : Int} {σ : St} (f0 : Fr S_X12_ringsAt σ0 σ) (h : wp_X12_ringsAt_b136 Q K89 K98 x3 x4 σ) : wp_X12_ringsAt_b136 Q' K89' K98' x3 x4 σ := by
  unfold wp_X12_ringsAt_b136 at h ⊢
  intro v13 ev13; replace h := h v13 ev13
  exact hK98 _ _ _ f0 h
set_option maxHeartbeats 1000000 in
theorem mf_X12_ringsAt_l98 {Q Q' : Int → St → Prop} {σ0 : St} (hq : ∀ (r : Int) (σ1 : St), Q r σ1 → Fr S_X12_ringsAt σ0 σ1 → Q' r σ1) {K89 K89' : Int → St → Prop} (hK89 : ∀ (x3 : Int) (σ : St), Fr S_X12_ringsAt σ0 σ → K89 x3 σ → K89' x3 σ) : ∀ (n : Nat) (x3 : Int) (x4 : Int) (σ : St), Fr S_X12_ringsAt σ0 σ → wp_X12_ringsAt_l98 Q K89 n x3 x4 σ → wp_X12_ringsAt_l98 Q' K89' n x3 x4 σ := by
  intro n
  induction n with
  | zero => intro _ _ _ _ h; exact h.elim
  | succ n ih =>
    intro x3 x4 σ f0 h
    unfold wp_X12_ringsAt_l98 at h ⊢
    refine ⟨fun hc => ?_, fun hc => ?_⟩
    · replace h := h.1 hc
      intro v11 ev11; replace h := h v11 ev11
      exact hK89 _ _ f0 h
    · replace h := h.2 hc
      refine ⟨h.1, ?_⟩; replace h := h.2
      refine ⟨fun hc => ?_, fun hc => ?_⟩
      · replace h := h.1 hc
        exact mf_X12_ringsAt_b136 hq hK89 ih f0 h
      · replace h := h.2 hc
        refine ⟨h.1, ?_⟩; replace h := h.2
        refine ⟨h.1, ?_⟩; replace h := h.2
        refine ⟨h.1, fun σ12 eσ12 => ?_⟩; replace h := h.2 σ12 eσ12; have fσ12 : Fr S_X12_ringsAt σ0 σ12 := by rw [eσ12]; exact f0.up rfl
        exact mf_X12_ringsAt_b136 hq hK89 ih fσ12 h
set_option maxHeartbeats 1000000 in
theorem mf_X12_ringsAt_l153 {Q Q' : Int → St → Prop} {σ0 : St} (hq : ∀ (r : Int) (σ1 : St), Q r σ1 → Fr S_X12_ringsAt σ0 σ1 → Q' r σ1) : ∀ (n : Nat) (x3 : Int) (x4 : Int) (σ : St), Fr S_X12_ringsAt σ0 σ → wp_X12_ringsAt_l153 Q n x3 x4 σ → wp_X12_ringsAt_l153 Q' n x3 x4 σ := by
  intro n
  induction n with
  | zero => intro _ _ _ _ h; exact h.elim
  | succ n ih =>
    intro x3 x4 σ f0 h
    unfold wp_X12_ringsAt_l153 at h ⊢
    refine ⟨fun hc => ?_, fun hc => ?_⟩
    · replace h := h.1 hc
      exact hq _ _ h f0
    · replace h := h.2 hc
      refine ⟨h.1, ?_⟩; replace h := h.2
      intro v9 ev9; replace h := h v9 ev9
      intro v10 ev10; replace h := h v10 ev10
      exact ih _ _ _ f0 h
set_option maxHeartbeats 1000000 in
theorem mf_X12_ringsAt_l89 {Q Q' : Int → St → Prop} {σ0 : St} (hq : ∀ (r : Int) (σ1 : St), Q r σ1 → Fr S_X12_ringsAt σ0 σ1 → Q' r σ1) : ∀ (n : Nat) (x3 : Int) (σ : St), Fr S_X12_ringsAt σ0 σ → wp_X12_ringsAt_l89 Q n x3 σ → wp_X12_ringsAt_l89 Q' n x3 σ := by
  intro n
  induction n with
  | zero => intro _ _ _ h; exact h.elim
  | succ n ih =>
    intro x3 σ f0 h
    unfold wp_X12_ringsAt_l89 at h ⊢
    refine ⟨fun hc => ?_, fun hc => ?_⟩
    · replace h := h.1 hc
      exact mf_X12_ringsAt_l153 hq bigN _ _ _ f0 h
    · replace h := h.2 hc
      exact mf_X12_ringsAt_l98 hq ih bigN _ _ _ f0 h
set_option maxHeartbeats 1000000 in
theorem mf_X12_ringsAt_l23 {Q Q' : Int → St → Prop} {σ0 : St} (hq : ∀ (r : Int) (σ1 : St), Q r σ1 → Fr S_X12_ringsAt σ0 σ1 → Q' r σ1) : ∀ (n : Nat) (x1 : Int) (x2 : Int) (x3 : Int) (σ : St), Fr S_X12_ringsAt σ0 σ → wp_X12_ringsAt_l23 Q n x1 x2 x3 σ → wp_X12_ringsAt_l23 Q' n x1 x2 x3 σ := by
  intro n
  induction n with
  | zero => intro _ _ _ _ _ h; exact h.elim
  | succ n ih =>
    intro x1 x2 x3 σ f0 h
    unfold wp_X12_ringsAt_l23 at h ⊢
    refine ⟨fun hc => ?_, fun hc => ?_⟩
    · replace h := h.1 hc
      exact mf_X12_ringsAt_l89 hq bigN _ _ f0 h
    · replace h := h.2 hc
      refine mf_X12_isSingle (fun r3 σ4 h gσ4 => ?_) Fr.rf h
      have fσ4 : Fr S_X12_ringsAt σ0 σ4 := f0.tr gσ4 (mkS_sub (by decide) (by decide))
      refine ⟨fun hc => ?_, fun hc => ?_⟩
      · replace h := h.1 hc
        exact mf_X12_ringsAt_b81 hq ih fσ4 h
      · replace h := h.2 hc
        refine ⟨fun hc => ?_, fun hc => ?_⟩
        · replace h := h.1 hc
          exact mf_X12_ringsAt_b59 hq ih fσ4 h
        · replace h := h.2 hc
          refine ⟨h.1, ?_⟩; replace h := h.2
          refine mf_X12_has (fun r5 σ6 h gσ6 => ?_) Fr.rf h
          have fσ6 : Fr S_X12_ringsAt σ0 σ6 := fσ4.tr gσ6 (mkS_sub (by decide) (by decide))
          refine ⟨fun hc => ?_, fun hc => ?_⟩
          · replace h := h.1 hc
            exact mf_X12_ringsAt_b81 hq ih fσ6 h
          · replace h := h.2 hc
            exact mf_X12_ringsAt_b59 hq ih fσ6 h
set_option maxHeartbeats 1000000 in
theorem mf_X12_ringsAt_l2 {Q Q' : Int → St → Prop} {σ0 : St} (hq : ∀ (r : Int) (σ1 : St), Q r σ1 → Fr S_X12_ringsAt σ0 σ1 → Q' r σ1) : ∀ (n : Nat) (x1 : Int) (x2 : Int) (x3 : Int) (σ : St), Fr S_X12_ringsAt σ0 σ → wp_X12_ringsAt_l2 Q n x1 x2 x3 σ → wp_X12_ringsAt_l2 Q' n x1 x2 x3 σ := by
  intro n
  induction n with
  | zero => intro _ _ _ _ _ h; exact h.elim
  | succ n ih =>
    intro x1 x2 x3 σ f0 h
    unfold wp_X12_ringsAt_l2 at h ⊢
    refine ⟨fun hc => ?_, fun hc => ?_⟩
    · replace h := h.1 hc
      exact mf_X12_ringsAt_l23 hq bigN _ _ _ _ f0 h
    · replace h := h.2 hc
      refine ⟨h.1, fun σ1 eσ1 => ?_⟩; replace h := h.2 σ1 eσ1; have fσ1 : Fr S_X12_ringsAt σ0 σ1 := by rw [eσ1]; exact f0.up rfl
      intro v2 ev2; replace h := h v2 ev2
      exact ih _ _ _ _ fσ1 h
set_option maxHeartbeats 1000000 in
theorem mf_X12_ringsAt {Q Q' : Int → St → Prop} {σ0 : St} (hq : ∀ (r : Int) (σ1 : St), Q r σ1 → Fr S_X12_ringsAt σ0 σ1 → Q' r σ1) {x1 x2 : Int} {σ : St} (f0 : Fr S_X12_ringsAt σ0 σ) (h : wp_X12_ringsAt x1 x2 σ Q) : wp_X12_ringsAt x1 x2 σ Q' := by
  unfold wp_X12_ringsAt at h ⊢
  exact mf_X12_ringsAt_l2 hq bigN _ _ _ _ f0 h
set_option maxHeartbeats 1000000 in
theorem mf_X12_isEndlessPart_b24 {Q Q' : Int → St → Prop} {σ0 : St} (hq : ∀ (r : Int) (σ1 : St), Q r σ1 → Fr S_X12_isEndlessPart σ0 σ1 → Q' r σ1) {σ : St} (f0 : Fr S_X12_isEndlessPart σ0 σ) (h : wp_X12_isEndlessPart_b24 Q  σ) : wp_X12_isEndlessPart_b24 Q'  σ := by
  unfold wp_X12_isEndlessPart_b24 at h ⊢
  exact hq _ _ h f0
set_option maxHeartbeats 1000000 in
theorem mf_X12_isEndlessPart {Q Q' : Int → St → Prop} {σ0 : St} (hq : ∀ (r : Int) (σ1 : St), Q r σ1 → Fr S_X12_isEndlessPart σ0 σ1 → Q' r σ1) {x1 x2 x3 : Int} {σ : St} (f0 : Fr S_X12_isEndlessPart σ0 σ) (h : wp_X12_isEndlessPart x1 x2 x3 σ Q) : wp_X12_isEndlessPart x1 x2 x3 σ Q' := by
  unfold wp_X12_isEndlessPart at h ⊢
  refine ⟨fun hc => ?_, fun hc => ?_⟩
  · replace h := h.1 hc
    exact mf_X12_isEndlessPart_b24 hq f0 h
  · replace h := h.2 hc
    refine mf_X12_item (fun r1 σ2 h gσ2 => ?_) Fr.rf h
    have fσ2 : Fr S_X12_isEndlessPart σ0 σ2 := f0.tr gσ2 (mkS_sub (by decide) (by decide))
    refine ⟨h.1, ?_⟩; replace h := h.2
    refine ⟨fun hc => ?_, fun hc => ?_⟩
    · replace h := h.1 hc
      exact mf_X12_isEndlessPart_b24 hq fσ2 h
    · replace h := h.2 hc
      exact hq _ _ h fσ2
set_option maxHeartbeats 1000000 in
theorem mf_X12_goesOn_b44 {Q Q' : Int → St → Prop} {σ0 : St} (hq : ∀ (r : Int) (σ1 : St), Q r σ1 → Fr S_X12_goesOn σ0 σ1 → Q' r σ1) {σ : St} (f0 : Fr S_X12_goesOn σ0 σ) (h : wp_X12_goesOn_b44 Q  σ) : wp_X12_goesOn_b44 Q'  σ := by
  unfold wp_X12_goesOn_b44 at h ⊢
  exact hq _ _ h f0
set_option maxHeartbeats 1000000 in
theorem mf_X12_goesOn_b123 {Q Q' : Int → St → Prop} {σ0 : St} (hq : ∀ (r : Int) (σ1 : St), Q r σ1 → Fr S_X12_goesOn σ0 σ1 → Q' r σ1) {K51 K51' : Int → Int → Int → Int → St → Prop} (hK51 : ∀ (x1 : Int) (x2 : Int) (x3 : Int) (x4 : Int) (σ : St), Fr S_X12_goesOn σ0 σ → K51 x1 x2 x3 x4 σ → K51' x1 x2 x3 x4 σ) {x1 x2 x3 x4 : Int} {σ : St} (f0 : Fr S_X12_goesOn σ0 σ) (h : wp_X12_goesOn_b123 Q K51 x1 x2 x3 x4 σ) : wp_X12_goesOn_b123 Q' K51' x1 x2 x3 x4 σ := by
  unfold wp_X12_goesOn_b123 at h ⊢
  intro v14 ev14; replace h := h v14 ev14
  exact hK51 _ _ _ _ _ f0 h
set_option maxHeartbeats 1000000 in
theorem mf_X12_goesOn_l51 {Q Q' : Int → St → Prop} {σ0 : St} (hq : ∀ (r : Int) (σ1 : St), Q r σ1 → Fr S_X12_goesOn σ0 σ1 → Q' r σ1) : ∀ (n : Nat) (x1 : Int) (x2 : Int) (x3 : Int) (x4 : Int) (σ : St), Fr S_X12_goesOn σ0 σ → wp_X12_goesOn_l51 Q n x1 x2 x3 x4 σ → wp_X12_goesOn_l51 Q' n x1 x2 x3 x4 σ := by
  intro n
  induction n with
  | zero => intro _ _ _ _ _ _ h; exact h.elim
  | succ n ih =>
    intro x1 x2 x3 x4 σ f0 h
    unfold wp_X12_goesOn_l51 at h ⊢
    refine ⟨fun hc => ?_, fun hc => ?_⟩
    · replace h := h.1 hc
      exact hq _ _ h f0
    · replace h := h.2 hc
      refine ⟨h.1, ?_⟩; replace h := h.2
      refine mf_X12_fits (fun r6 σ7 h gσ7 => ?_) Fr.rf h
      have fσ7 : Fr S_X12_goesOn σ0 σ7 := f0.tr gσ7 (mkS_sub (by decide) (by decide))
      refine ⟨fun hc => ?_, fun hc => ?_⟩
      · replace h := h.1 hc
        exact mf_X12_goesOn_b123 hq ih fσ7 h
      · replace h := h.2 hc
        refine ⟨h.1, ?_⟩; replace h := h.2
        refine mf_X12_fits (fun r8 σ9 h gσ9 => ?_) Fr.rf h
        have fσ9 : Fr S_X12_goesOn σ0 σ9 := fσ7.tr gσ9 (mkS_sub (by decide) (by decide))
        refine ⟨fun hc => ?_, fun hc => ?_⟩
        · replace h := h.1 hc
          exact mf_X12_goesOn_b123 hq ih fσ9 h
        · replace h := h.2 hc
          refine ⟨h.1, ?_⟩; replace h := h.2
          refine mf_X12_isEndlessPart (fun r10 σ11 h gσ11 => ?_) Fr.rf h
          have fσ11 : Fr S_X12_goesOn σ0 σ11 := fσ9.tr gσ11 (mkS_sub (by decide) (by decide))
          refine ⟨fun hc => ?_, fun hc => ?_⟩
          · replace h := h.1 hc
            exact hq _ _ h fσ11
          · replace h := h.2 hc
            refine ⟨h.1, ?_⟩; replace h := h.2
            refine mf_X12_isEndlessPart (fun r12 σ13 h gσ13 => ?_) Fr.rf h
            have fσ13 : Fr S_X12_goesOn σ0 σ13 := fσ11.tr gσ13 (mkS_sub (by decide) (by decide))
            refine ⟨fun hc => ?_, fun hc => ?_⟩
            · replace h := h.1 hc
              exact mf_X12_goesOn_b123 hq ih fσ13 h
            · replace h := h.2 hc
              exact hq _ _ h fσ13
set_option maxHeartbeats 1000000 in
theorem mf_X12_goesOn {Q Q' : Int → St → Prop} {σ0 : St} (hq : ∀ (r : Int) (σ1 : St), Q r σ1 → Fr S_X12_goesOn σ0 σ1 → Q' r σ1) {x1 x2 x3 : Int} {σ : St} (f0 : Fr S_X12_goesOn σ0 σ) (h : wp_X12_goesOn x1 x2 x3 σ Q) : wp_X12_goesOn x1 x2 x3 σ Q' := by
  unfold wp_X12_goesOn at h ⊢
  refine ⟨h.1, ?_⟩; replace h := h.2
  refine ⟨fun hc => ?_, fun hc => ?_⟩
  · replace h := h.1 hc
    intro v1 ev1; replace h := h v1 ev1
    exact mf_X12_goesOn_l51 hq bigN _ _ _ _ _ f0 h
  · replace h := h.2 hc
    refine ⟨h.1, ?_⟩; replace h := h.2
    refine mf_X12_fits (fun r2 σ3 h gσ3 => ?_) Fr.rf h
    have fσ3 : Fr S_X12_goesOn σ0 σ3 := f0.tr gσ3 (mkS_sub (by decide) (by decide))
    refine ⟨fun hc => ?_, fun hc => ?_⟩
    · replace h := h.1 hc
      exact mf_X12_goesOn_b44 hq fσ3 h
    · replace h := h.2 hc
      refine ⟨h.1, ?_⟩; replace h := h.2
      refine mf_X12_isEndlessPart (fun r4 σ5 h gσ5 => ?_) Fr.rf h
      have fσ5 : Fr S_X12_goesOn σ0 σ5 := fσ3.tr gσ5 (mkS_sub (by decide) (by decide))
      refine ⟨fun hc => ?_, fun hc => ?_⟩
      · replace h := h.1 hc
        exact mf_X12_goesOn_b44 hq fσ5 h
      · replace h := h.2 hc
        exact hq _ _ h fσ5
set_option maxHeartbeats 1000000 in
theorem mf_X12_laysEndlessSpan_b40 {Q Q' : Int → St → Prop} {σ0 : St} (hq : ∀ (r : Int) (σ1 : St), Q r σ1 → Fr S_X12_laysEndlessSpan σ0 σ1 → Q' r σ1) {K10 K10' : Int → Int → Int → Int → St → Prop} (hK10 : ∀ (x1 : Int) (x2 : Int) (x3 : Int) (x4 : Int) (σ : St), Fr S_X12_laysEndlessSpan σ0 σ → K10 x1 x2 x3 x4 σ → K10' x1 x2 x3 x4 σ) {x1 x2 x3 x4 : Int} {σ : St} (f0 : Fr S_X12_laysEndlessSpan σ0 σ) (h : wp_X12_laysEndlessSpan_b40 Q K10 x1 x2 x3 x4 σ) : wp_X12_laysEndlessSpan_b40 Q' K10' x1 x2 x3 x4 σ := by
  unfold wp_X12_laysEndlessSpan_b40 at h ⊢
  intro v6 ev6; replace h := h v6 ev6
  exact hK10 _ _ _ _ _ f0 h
set_option maxHeartbeats 1000000 in
theorem mf_X12_laysEndlessSpan_b133 {Q Q' : Int → St → Prop} {σ0 : St} (hq : ∀ (r : Int) (σ1 : St), Q r σ1 → Fr S_X12_laysEndlessSpan σ0 σ1 → Q' r σ1) {K49 K49' : Int → Int → Int → St → Prop} (hK49 : ∀ (x1 : Int) (x2 : Int) (x4 : Int) (σ : St), Fr S_X12_laysEndlessSpan σ0 σ → K49 x1 x2 x4 σ → K49' x1 x2 x4 σ) {K60 K60' : Int → Int → Int → Int → St → Prop} (hK60 : ∀ (x1 : Int) (x2 : Int) (x4 : Int) (x5 : Int) (σ : St), Fr S_X12_laysEndlessSpan σ0 σ → K60 x1 x2 x4 x5 σ → K60' x1 x2 x4 x5 σ) {x1 x2 x4 x5 : Int} {σ : St} (f0 : Fr S_X12_laysEndlessSpan σ0 σ) (h : wp_X12_laysEndlessSpan_b133 Q K49 K60 x1 x2 x4 x5 σ) : wp_X12_laysEndlessSpan_b133 Q' K49' K60' x1 x2 x4 x5 σ := by
  unfold wp_X12_laysEndlessSpan_b133 at h ⊢
  intro v16 ev16; replace h := h v16 ev16
  exact hK60 _ _ _ _ _ f0 h
set_option maxHeartbeats 1000000 in
theorem mf_X12_laysEndlessSpan_l60 {Q Q' : Int → St → Prop} {σ0 : St} (hq : ∀ (r : Int) (σ1 : St), Q r σ1 → Fr S_X12_laysEndlessSpan σ0 σ1 → Q' r σ1) {K49 K49' : Int → Int → Int → St → Prop} (hK49 : ∀ (x1 : Int) (x2 : Int) (x4 : Int) (σ : St), Fr S_X12_laysEndlessSpan σ0 σ → K49 x1 x2 x4 σ → K49' x1 x2 x4 σ) : ∀ (n : Nat) (x1 : Int) (x2 : Int) (x4 : Int) (x5 : Int) (σ : St), Fr S_X12_laysEndlessSpan σ0 σ → wp_X12_laysEndlessSpan_l60 Q K49 n x1 x2 x4 x5 σ → wp_X12_laysEndlessSpan_l60 Q' K49' n x1 x2 x4 x5 σ := by
  intro n
  induction n with
  | zero => intro _ _ _ _ _ _ h; exact h.elim
  | succ n ih =>
    intro x1 x2 x4 x5 σ f0 h
    unfold wp_X12_laysEndlessSpan_l60 at h ⊢
    refine ⟨fun hc => ?_, fun hc => ?_⟩
    · replace h := h.1 hc
      exact hK49 _ _ _ _ f0 h
    · replace h := h.2 hc
      refine mf_X12_isIn (fun r7 σ8 h gσ8 => ?_) Fr.rf h
      have fσ8 : Fr S_X12_laysEndlessSpan σ0 σ8 := f0.tr gσ8 (mkS_sub (by decide) (by decide))
      refine ⟨fun hc => ?_, fun hc => ?_⟩
      · replace h := h.1 hc
        exact mf_X12_laysEndlessSpan_b133 hq hK49 ih fσ8 h
      · replace h := h.2 hc
        refine ⟨h.1, ?_⟩; replace h := h.2
        refine mf_X12_item (fun r9 σ10 h gσ10 => ?_) Fr.rf h
        have fσ10 : Fr S_X12_laysEndlessSpan σ0 σ10 := fσ8.tr gσ10 (mkS_sub (by decide) (by decide))
        refine ⟨h.1, ?_⟩; replace h := h.2
        refine ⟨fun hc => ?_, fun hc => ?_⟩
        · replace h := h.1 hc
          exact mf_X12_laysEndlessSpan_b133 hq hK49 ih fσ10 h
        · replace h := h.2 hc
          refine mf_X12_goesOn (fun r11 σ12 h gσ12 => ?_) Fr.rf h
          have fσ12 : Fr S_X12_laysEndlessSpan σ0 σ12 := fσ10.tr gσ12 (mkS_sub (by decide) (by decide))
          refine ⟨fun hc => ?_, fun hc => ?_⟩
          · replace h := h.1 hc
            refine ⟨h.1, ?_⟩; replace h := h.2
            refine mf_X12_item (fun r13 σ14 h gσ14 => ?_) Fr.rf h
            have fσ14 : Fr S_X12_laysEndlessSpan σ0 σ14 := fσ12.tr gσ14 (mkS_sub (by decide) (by decide))
            refine ⟨h.1, fun σ15 eσ15 => ?_⟩; replace h := h.2 σ15 eσ15; have fσ15 : Fr S_X12_laysEndlessSpan σ0 σ15 := by rw [eσ15]; exact fσ14.up rfl
            exact mf_X12_laysEndlessSpan_b133 hq hK49 ih fσ15 h
          · replace h := h.2 hc
            exact mf_X12_laysEndlessSpan_b133 hq hK49 ih fσ12 h
set_option maxHeartbeats 1000000 in
theorem mf_X12_laysEndlessSpan_l49 {Q Q' : Int → St → Prop} {σ0 : St} (hq : ∀ (r : Int) (σ1 : St), Q r σ1 → Fr S_X12_laysEndlessSpan σ0 σ1 → Q' r σ1) : ∀ (n : Nat) (x1 : Int) (x2 : Int) (x4 : Int) (σ : St), Fr S_X12_laysEndlessSpan σ0 σ → wp_X12_laysEndlessSpan_l49 Q n x1 x2 x4 σ → wp_X12_laysEndlessSpan_l49 Q' n x1 x2 x4 σ := by
  intro n
  induction n with
  | zero => intro _ _ _ _ _ h; exact h.elim
  | succ n ih =>
    intro x1 x2 x4 σ f0 h
    unfold wp_X12_laysEndlessSpan_l49 at h ⊢
    refine ⟨fun hc => ?_, fun hc => ?_⟩
    · replace h := h.1 hc
      exact hq _ _ h f0
    · replace h := h.2 hc
      exact mf_X12_laysEndlessSpan_l60 hq ih bigN _ _ _ _ _ f0 h
set_option maxHeartbeats 1000000 in
theorem mf_X12_laysEndlessSpan_l10 {Q Q' : Int → St → Prop} {σ0 : St} (hq : ∀ (r : Int) (σ1 : St), Q r σ1 → Fr S_X12_laysEndlessSpan σ0 σ1 → Q' r σ1) : ∀ (n : Nat) (x1 : Int) (x2 : Int) (x3 : Int) (x4 : Int) (σ : St), Fr S_X12_laysEndlessSpan σ0 σ → wp_X12_laysEndlessSpan_l10 Q n x1 x2 x3 x4 σ → wp_X12_laysEndlessSpan_l10 Q' n x1 x2 x3 x4 σ := by
  intro n
  induction n with
  | zero => intro _ _ _ _ _ _ h; exact h.elim
  | succ n ih =>
    intro x1 x2 x3 x4 σ f0 h
    unfold wp_X12_laysEndlessSpan_l10 at h ⊢
    refine ⟨fun hc => ?_, fun hc => ?_⟩
    · replace h := h.1 hc
      exact mf_X12_laysEndlessSpan_l49 hq bigN _ _ _ _ f0 h
    · replace h := h.2 hc
      refine ⟨fun hc => ?_, fun hc => ?_⟩
      · replace h := h.1 hc
        exact mf_X12_laysEndlessSpan_b40 hq ih f0 h
      · replace h := h.2 hc
        refine mf_X12_item (fun r3 σ4 h gσ4 => ?_) Fr.rf h
        have fσ4 : Fr S_X12_laysEndlessSpan σ0 σ4 := f0.tr gσ4 (mkS_sub (by decide) (by decide))
        refine ⟨h.1, fun σ5 eσ5 => ?_⟩; replace h := h.2 σ5 eσ5; have fσ5 : Fr S_X12_laysEndlessSpan σ0 σ5 := by rw [eσ5]; exact fσ4.up rfl
        exact mf_X12_laysEndlessSpan_b40 hq ih fσ5 h
set_option maxHeartbeats 1000000 in
theorem mf_X12_laysEndlessSpan {Q Q' : Int → St → Prop} {σ0 : St} (hq : ∀ (r : Int) (σ1 : St), Q r σ1 → Fr S_X12_laysEndlessSpan σ0 σ1 → Q' r σ1) {x1 x2 : Int} {σ : St} (f0 : Fr S_X12_laysEndlessSpan σ0 σ) (h : wp_X12_laysEndlessSpan x1 x2 σ Q) : wp_X12_laysEndlessSpan x1 x2 σ Q' := by
  unfold wp_X12_laysEndlessSpan at h ⊢
  refine mf_X12_ringsAt (fun r1 σ2 h gσ2 => ?_) Fr.rf h
  have fσ2 : Fr S_X12_laysEndlessSpan σ0 σ2 := f0.tr gσ2 (mkS_sub (by decide) (by decide))
  exact mf_X12_laysEndlessSpan_l10 hq bigN _ _ _ _ _ fσ2 h
set_option maxHeartbeats 1000000 in
theorem mf_X12_laysEndless_l41 {Q Q' : Int → St → Prop} {σ0 : St} (hq : ∀ (r : Int) (σ1 : St), Q r σ1 → Fr S_X12_laysEndless σ0 σ1 → Q' r σ1) {K31 K31' : Int → St → Prop} (hK31 : ∀ (x1 : Int) (σ : St), Fr S_X12_laysEndless σ0 σ → K31 x1 σ → K31' x1 σ) : ∀ (n : Nat) (x1 : Int) (x2 : Int) (σ : St), Fr S_X12_laysEndless σ0 σ → wp_X12_laysEndless_l41 Q K31 n x1 x2 σ → wp_X12_laysEndless_l41 Q' K31' n x1 x2 σ := by
  intro n
  induction n with
  | zero => intro _ _ _ _ h; exact h.elim
  | succ n ih =>
    intro x1 x2 σ f0 h
    unfold wp_X12_laysEndless_l41 at h ⊢
    refine ⟨fun hc => ?_, fun hc => ?_⟩
    · replace h := h.1 hc
      intro v4 ev4; replace h := h v4 ev4
      exact hK31 _ _ f0 h
    · replace h := h.2 hc
      refine mf_X12_laysEndlessSpan (fun r5 σ6 h gσ6 => ?_) Fr.rf h
      have fσ6 : Fr S_X12_laysEndless σ0 σ6 := f0.tr gσ6 (mkS_sub (by decide) (by decide))
      intro v7 ev7; replace h := h v7 ev7
      exact ih _ _ _ fσ6 h
set_option maxHeartbeats 1000000 in
theorem mf_X12_laysEndless_l31 {Q Q' : Int → St → Prop} {σ0 : St} (hq : ∀ (r : Int) (σ1 : St), Q r σ1 → Fr S_X12_laysEndless σ0 σ1 → Q' r σ1) : ∀ (n : Nat) (x1 : Int) (σ : St), Fr S_X12_laysEndless σ0 σ → wp_X12_laysEndless_l31 Q n x1 σ → wp_X12_laysEndless_l31 Q' n x1 σ := by
  intro n
  induction n with
  | zero => intro _ _ _ h; exact h.elim
  | succ n ih =>
    intro x1 σ f0 h
    unfold wp_X12_laysEndless_l31 at h ⊢
    refine ⟨fun hc => ?_, fun hc => ?_⟩
    · replace h := h.1 hc
      exact hq _ _ h f0
    · replace h := h.2 hc
      exact mf_X12_laysEndless_l41 hq ih bigN _ _ _ f0 h
set_option maxHeartbeats 1000000 in
theorem mf_X12_laysEndless_l2 {Q Q' : Int → St → Prop} {σ0 : St} (hq : ∀ (r : Int) (σ1 : St), Q r σ1 → Fr S_X12_laysEndless σ0 σ1 → Q' r σ1) : ∀ (n : Nat) (x1 : Int) (σ : St), Fr S_X12_laysEndless σ0 σ → wp_X12_laysEndless_l2 Q n x1 σ → wp_X12_laysEndless_l2 Q' n x1 σ := by
  intro n
  induction n with
  | zero => intro _ _ _ h; exact h.elim
  | succ n ih =>
    intro x1 σ f0 h
    unfold wp_X12_laysEndless_l2 at h ⊢
    refine ⟨fun hc => ?_, fun hc => ?_⟩
    · replace h := h.1 hc
      exact mf_X12_laysEndless_l31 hq bigN _ _ f0 h
    · replace h := h.2 hc
      refine ⟨h.1, fun σ1 eσ1 => ?_⟩; replace h := h.2 σ1 eσ1; have fσ1 : Fr S_X12_laysEndless σ0 σ1 := by rw [eσ1]; exact f0.up rfl
      refine ⟨h.1, fun σ2 eσ2 => ?_⟩; replace h := h.2 σ2 eσ2; have fσ2 : Fr S_X12_laysEndless σ0 σ2 := by rw [eσ2]; exact fσ1.up rfl
      intro v3 ev3; replace h := h v3 ev3
      exact ih _ _ fσ2 h
set_option maxHeartbeats 1000000 in
theorem mf_X12_laysEndless {Q Q' : Int → St → Prop} {σ0 : St} (hq : ∀ (r : Int) (σ1 : St), Q r σ1 → Fr S_X12_laysEndless σ0 σ1 → Q' r σ1) {σ : St} (f0 : Fr S_X12_laysEndless σ0 σ) (h : wp_X12_laysEndless  σ Q) : wp_X12_laysEndless  σ Q' := by
  unfold wp_X12_laysEndless at h ⊢
  exact mf_X12_laysEndless_l2 hq bigN _ _ f0 h
set_option maxHeartbeats 1000000 in
theorem mf_X12_waysPart {Q Q' : Int → St → Prop} {σ0 : St} (hq : ∀ (r : Int) (σ1 : St), Q r σ1 → Fr S_X12_waysPart σ0 σ1 → Q' r σ1) {M : Int → Int → Int → St → (Int → St → Prop) → Prop} (hM : ∀ (x1 : Int) (x2 : Int) (x3 : Int) (σ : St) {Q Q' : Int → St → Prop}, (∀ (r : Int) (σ1 : St), Q r σ1 → Fr S_X12_waysItem σ σ1 → Q' r σ1) → M x1 x2 x3 σ Q → M x1 x2 x3 σ Q') {x1 x2 x3 : Int} {σ : St} (f0 : Fr S_X12_waysPart σ0 σ) (h : wp_X12_waysPart M x1 x2 x3 σ Q) : wp_X12_waysPart M x1 x2 x3 σ Q' := by
  unfold wp_X12_waysPart at h ⊢
  refine mf_X12_fits (fun r1 σ2 h gσ2 => ?_) Fr.rf h
  have fσ2 : Fr S_X12_waysPart σ0 σ2 := f0.tr gσ2 (mkS_sub (by decide) (by decide))
  refine ⟨fun hc => ?_, fun hc => ?_⟩
  · replace h := h.1 hc
    refine ⟨fun hc => ?_, fun hc => ?_⟩
    · replace h := h.1 hc
      refine hM _ _ _ _ (fun r3 σ4 h gσ4 => ?_) h
      have fσ4 : Fr S_X12_waysPart σ0 σ4 := fσ2.tr gσ4 (mkS_sub (by decide) (by decide))
      exact hq _ _ h fσ4
    · replace h := h.2 hc
      exact hq _ _ h fσ2
  · replace h := h.2 hc
    exact hq _ _ h fσ2
set_option maxHeartbeats 1000000 in
theorem mf_X12_plusGreat {Q Q' : Int → St → Prop} {σ0 : St} (hq : ∀ (r : Int) (σ1 : St), Q r σ1 → Fr S_X12_plusGreat σ0 σ1 → Q' r σ1) {x0 x2 : Int} {σ : St} (f0 : Fr S_X12_plusGreat σ0 σ) (h : wp_X12_plusGreat x0 x2 σ Q) : wp_X12_plusGreat x0 x2 σ Q' := by
  unfold wp_X12_plusGreat at h ⊢
  exact hq _ _ h f0
set_option maxHeartbeats 1000000 in
theorem mf_X12_timesGreat {Q Q' : Int → St → Prop} {σ0 : St} (hq : ∀ (r : Int) (σ1 : St), Q r σ1 → Fr S_X12_timesGreat σ0 σ1 → Q' r σ1) {x0 x2 : Int} {σ : St} (f0 : Fr S_X12_timesGreat σ0 σ) (h : wp_X12_timesGreat x0 x2 σ Q) : wp_X12_timesGreat x0 x2 σ Q' := by
  unfold wp_X12_timesGreat at h ⊢
  refine ⟨fun hc => ?_, fun hc => ?_⟩
  · replace h := h.1 hc
    exact hq _ _ h f0
  · replace h := h.2 hc
    refine ⟨fun hc => ?_, fun hc => ?_⟩
    · replace h := h.1 hc
      refine ⟨h.1, ?_⟩; replace h := h.2
      refine ⟨fun hc => ?_, fun hc => ?_⟩
      · replace h := h.1 hc
        exact hq _ _ h f0
      · replace h := h.2 hc
        exact hq _ _ h f0
    · replace h := h.2 hc
      exact hq _ _ h f0
set_option maxHeartbeats 1000000 in
theorem mf_X12_waysItem_b189 {Q Q' : Int → St → Prop} {σ0 : St} (hq : ∀ (r : Int) (σ1 : St), Q r σ1 → Fr S_X12_waysItem σ0 σ1 → Q' r σ1) {M : Int → Int → Int → St → (Int → St → Prop) → Prop} (hM : ∀ (x1 : Int) (x2 : Int) (x3 : Int) (σ : St) {Q Q' : Int → St → Prop}, (∀ (r : Int) (σ1 : St), Q r σ1 → Fr S_X12_waysItem σ σ1 → Q' r σ1) → M x1 x2 x3 σ Q → M x1 x2 x3 σ Q') {K32 K32' : Int → Int → Int → Int → Int → Int → St → Prop} (hK32 : ∀ (x1 : Int) (x2 : Int) (x3 : Int) (x4 : Int) (x5 : Int) (x7 : Int) (σ : St), Fr S_X12_waysItem σ0 σ → K32 x1 x2 x3 x4 x5 x7 σ → K32' x1 x2 x3 x4 x5 x7 σ) {K100 K100' : Int → Int → Int → Int → Int → Int → Int → St → Prop} (hK100 : ∀ (x1 : Int) (x2 : Int) (x3 : Int) (x4 : Int) (x5 : Int) (x7 : Int) (x8 : Int) (σ : St), Fr S_X12_waysItem σ0 σ → K100 x1 x2 x3 x4 x5 x7 x8 σ → K100' x1 x2 x3 x4 x5 x7 x8 σ) {x1 x2 x3 x4 x5 x7 x8 : Int} {σ : St} (f0 : Fr S_X12_waysItem σ0 σ) (h : wp_X12_waysItem_b189 M Q K32 K100 x1 x2 x3 x4 x5 x7 x8 σ) : wp_X12_waysItem_b189 M Q' K32' K100' x1 x2 x3 x4 x5 x7 x8 σ := by
  unfold wp_X12_waysItem_b189 at h ⊢
  intro v25 ev25; replace h := h v25 ev25
  exact hK100 _ _ _ _ _ _ _ _ f0 h
set_option maxHeartbeats 1000000 in
theorem mf_X12_waysItem_b195 {Q Q' : Int → St → Prop} {σ0 : St} (hq : ∀ (r : Int) (σ1 : St), Q r σ1 → Fr S_X12_waysItem σ0 σ1 → Q' r σ1) {M : Int → Int → Int → St → (Int → St → Prop) → Prop} (hM : ∀ (x1 : Int) (x2 : Int) (x3 : Int) (σ : St) {Q Q' : Int → St → Prop}, (∀ (r : Int) (σ1 : St), Q r σ1 → Fr S_X12_waysItem σ σ1 → Q' r σ1) → M x1 x2 x3 σ Q → M x1 x2 x3 σ Q') {K32 K32' : Int → Int → Int → Int → Int → Int → St → Prop} (hK32 : ∀ (x1 : Int) (x2 : Int) (x3 : Int) (x4 : Int) (x5 : Int) (x7 : Int) (σ : St), Fr S_X12_waysItem σ0 σ → K32 x1 x2 x3 x4 x5 x7 σ → K32' x1 x2 x3 x4 x5 x7 σ) {x1 x2 x3 x4 x5 x7 : Int} {σ : St} (f0 : Fr S_X12_waysItem σ0 σ) (h : wp_X12_waysItem_b195 M Q K32 x1 x2 x3 x4 x5 x7 σ) : wp_X12_waysItem_b195 M Q' K32' x1 x2 x3 x4 x5 x7 σ := by
  unfold wp_X12_waysItem_b195 at h ⊢
  intro v11 ev11; replace h := h v11 ev11
  exact hK32 _ _ _ _ _ _ _ f0 h
set_option maxHeartbeats 1000000 in
theorem mf_X12_waysItem_l100 {Q Q' : Int → St → Prop} {σ0 : St} (hq : ∀ (r : Int) (σ1 : St), Q r σ1 → Fr S_X12_waysItem σ0 σ1 → Q' r σ1) {M : Int → Int → Int → St → (Int → St → Prop) → Prop} (hM : ∀ (x1 : Int) (x2 : Int) (x3 : Int) (σ : St) {Q Q' : Int → St → Prop}, (∀ (r : Int) (σ1 : St), Q r σ1 → Fr S_X12_waysItem σ σ1 → Q' r σ1) → M x1 x2 x3 σ Q → M x1 x2 x3 σ Q') {K32 K32' : Int → Int → Int → Int → Int → Int → St → Prop} (hK32 : ∀ (x1 : Int) (x2 : Int) (x3 : Int) (x4 : Int) (x5 : Int) (x7 : Int) (σ : St), Fr S_X12_waysItem σ0 σ → K32 x1 x2 x3 x4 x5 x7 σ → K32' x1 x2 x3 x4 x5 x7 σ) : ∀ (n : Nat) (x1 : Int) (x2 : Int) (x3 : Int) (x4 : Int) (x5 : Int) (x7 : Int) (x8 : Int) (σ : St), Fr S_X12_waysItem σ0 σ → wp_X12_waysItem_l100 M Q K32 n x1 x2 x3 x4 x5 x7 x8 σ → wp_X12_waysItem_l100 M Q' K32' n x1 x2 x3 x4 x5 x7 x8 σ := by
  intro n
  induction n with
  | zero => intro _ _ _ _ _ _ _ _ _ h; exact h.elim
  | succ n ih =>
    intro x1 x2 x3 x4 x5 x7 x8 σ f0 h
    unfold wp_X12_waysItem_l100 at h ⊢
    refine ⟨fun hc => ?_, fun hc => ?_⟩
    · replace h := h.1 hc
      exact mf_X12_waysItem_b195 hq hM hK32 f0 h
    · replace h := h.2 hc
      refine ⟨h.1, ?_⟩; replace h := h.2
      refine ⟨fun hc => ?_, fun hc => ?_⟩
      · replace h := h.1 hc
        exact mf_X12_waysItem_b195 hq hM hK32 f0 h
      · replace h := h.2 hc
        refine ⟨h.1, ?_⟩; replace h := h.2
        refine mf_X12_fits (fun r13 σ14 h gσ14 => ?_) Fr.rf h
        have fσ14 : Fr S_X12_waysItem σ0 σ14 := f0.tr gσ14 (mkS_sub (by decide) (by decide))
        refine ⟨fun hc => ?_, fun hc => ?_⟩
        · replace h := h.1 hc
          exact mf_X12_waysItem_b189 hq hM hK32 ih fσ14 h
        · replace h := h.2 hc
          refine ⟨h.1, ?_⟩; replace h := h.2
          refine mf_X12_fits (fun r15 σ16 h gσ16 => ?_) Fr.rf h
          have fσ16 : Fr S_X12_waysItem σ0 σ16 := fσ14.tr gσ16 (mkS_sub (by decide) (by decide))
          refine ⟨fun hc => ?_, fun hc => ?_⟩
          · replace h := h.1 hc
            exact mf_X12_waysItem_b189 hq hM hK32 ih fσ16 h
          · replace h := h.2 hc
            refine ⟨h.1, ?_⟩; replace h := h.2
            refine mf_X12_waysPart (fun r17 σ18 h gσ18 => ?_) hM Fr.rf h
            have fσ18 : Fr S_X12_waysItem σ0 σ18 := fσ16.tr gσ18 (mkS_sub (by decide) (by decide))
            refine ⟨h.1, ?_⟩; replace h := h.2
            refine mf_X12_waysPart (fun r19 σ20 h gσ20 => ?_) hM Fr.rf h
            have fσ20 : Fr S_X12_waysItem σ0 σ20 := fσ18.tr gσ20 (mkS_sub (by decide) (by decide))
            refine mf_X12_timesGreat (fun r21 σ22 h gσ22 => ?_) Fr.rf h
            have fσ22 : Fr S_X12_waysItem σ0 σ22 := fσ20.tr gσ22 (mkS_sub (by decide) (by decide))
            refine mf_X12_plusGreat (fun r23 σ24 h gσ24 => ?_) Fr.rf h
            have fσ24 : Fr S_X12_waysItem σ0 σ24 := fσ22.tr gσ24 (mkS_sub (by decide) (by decide))
            exact mf_X12_waysItem_b189 hq hM hK32 ih fσ24 h
set_option maxHeartbeats 1000000 in
theorem mf_X12_waysItem_b95 {Q Q' : Int → St → Prop} {σ0 : St} (hq : ∀ (r : Int) (σ1 : St), Q r σ1 → Fr S_X12_waysItem σ0 σ1 → Q' r σ1) {M : Int → Int → Int → St → (Int → St → Prop) → Prop} (hM : ∀ (x1 : Int) (x2 : Int) (x3 : Int) (σ : St) {Q Q' : Int → St → Prop}, (∀ (r : Int) (σ1 : St), Q r σ1 → Fr S_X12_waysItem σ σ1 → Q' r σ1) → M x1 x2 x3 σ Q → M x1 x2 x3 σ Q') {K32 K32' : Int → Int → Int → Int → Int → Int → St → Prop} (hK32 : ∀ (x1 : Int) (x2 : Int) (x3 : Int) (x4 : Int) (x5 : Int) (x7 : Int) (σ : St), Fr S_X12_waysItem σ0 σ → K32 x1 x2 x3 x4 x5 x7 σ → K32' x1 x2 x3 x4 x5 x7 σ) {x1 x2 x3 x4 x5 x7 : Int} {σ : St} (f0 : Fr S_X12_waysItem σ0 σ) (h : wp_X12_waysItem_b95 M Q K32 x1 x2 x3 x4 x5 x7 σ) : wp_X12_waysItem_b95 M Q' K32' x1 x2 x3 x4 x5 x7 σ := by
  unfold wp_X12_waysItem_b95 at h ⊢
  intro v12 ev12; replace h := h v12 ev12
  exact mf_X12_waysItem_l100 hq hM hK32 bigN _ _ _ _ _ _ _ _ f0 h
set_option maxHeartbeats 1000000 in
theorem mf_X12_waysItem_l32 {Q Q' : Int → St → Prop} {σ0 : St} (hq : ∀ (r : Int) (σ1 : St), Q r σ1 → Fr S_X12_waysItem σ0 σ1 → Q' r σ1) {M : Int → Int → Int → St → (Int → St → Prop) → Prop} (hM : ∀ (x1 : Int) (x2 : Int) (x3 : Int) (σ : St) {Q Q' : Int → St → Prop}, (∀ (r : Int) (σ1 : St), Q r σ1 → Fr S_X12_waysItem σ σ1 → Q' r σ1) → M x1 x2 x3 σ Q → M x1 x2 x3 σ Q') : ∀ (n : Nat) (x1 : Int) (x2 : Int) (x3 : Int) (x4 : Int) (x5 : Int) (x7 : Int) (σ : St), Fr S_X12_waysItem σ0 σ → wp_X12_waysItem_l32 M Q n x1 x2 x3 x4 x5 x7 σ → wp_X12_waysItem_l32 M Q' n x1 x2 x3 x4 x5 x7 σ := by
  intro n
  induction n with
  | zero => intro _ _ _ _ _ _ _ _ h; exact h.elim
  | succ n ih =>
    intro x1 x2 x3 x4 x5 x7 σ f0 h
    unfold wp_X12_waysItem_l32 at h ⊢
    refine ⟨fun hc => ?_, fun hc => ?_⟩
    · replace h := h.1 hc
      refine ⟨h.1, fun σ3 eσ3 => ?_⟩; replace h := h.2 σ3 eσ3; have fσ3 : Fr S_X12_waysItem σ0 σ3 := by rw [eσ3]; exact f0.up rfl
      refine ⟨h.1, fun σ4 eσ4 => ?_⟩; replace h := h.2 σ4 eσ4; have fσ4 : Fr S_X12_waysItem σ0 σ4 := by rw [eσ4]; exact fσ3.up rfl
      exact hq _ _ h fσ4
    · replace h := h.2 hc
      refine mf_X12_isIn (fun r5 σ6 h gσ6 => ?_) Fr.rf h
      have fσ6 : Fr S_X12_waysItem σ0 σ6 := f0.tr gσ6 (mkS_sub (by decide) (by decide))
      refine ⟨fun hc => ?_, fun hc => ?_⟩
      · replace h := h.1 hc
        exact mf_X12_waysItem_b195 hq hM ih fσ6 h
      · replace h := h.2 hc
        refine ⟨h.1, ?_⟩; replace h := h.2
        refine ⟨fun hc => ?_, fun hc => ?_⟩
        · replace h := h.1 hc
          refine ⟨h.1, ?_⟩; replace h := h.2
          refine ⟨fun hc => ?_, fun hc => ?_⟩
          · replace h := h.1 hc
            exact mf_X12_waysItem_b95 hq hM ih fσ6 h
          · replace h := h.2 hc
            refine ⟨h.1, ?_⟩; replace h := h.2
            refine mf_X12_waysPart (fun r7 σ8 h gσ8 => ?_) hM Fr.rf h
            have fσ8 : Fr S_X12_waysItem σ0 σ8 := fσ6.tr gσ8 (mkS_sub (by decide) (by decide))
            refine mf_X12_plusGreat (fun r9 σ10 h gσ10 => ?_) Fr.rf h
            have fσ10 : Fr S_X12_waysItem σ0 σ10 := fσ8.tr gσ10 (mkS_sub (by decide) (by decide))
            exact mf_X12_waysItem_b95 hq hM ih fσ10 h
        · replace h := h.2 hc
          exact mf_X12_waysItem_b195 hq hM ih fσ6 h
set_option maxHeartbeats 1000000 in
theorem mf_X12_waysItem_e {Q Q' : Int → St → Prop} {σ0 : St} (hq : ∀ (r : Int) (σ1 : St), Q r σ1 → Fr S_X12_waysItem σ0 σ1 → Q' r σ1) {M : Int → Int → Int → St → (Int → St → Prop) → Prop} (hM : ∀ (x1 : Int) (x2 : Int) (x3 : Int) (σ : St) {Q Q' : Int → St → Prop}, (∀ (r : Int) (σ1 : St), Q r σ1 → Fr S_X12_waysItem σ σ1 → Q' r σ1) → M x1 x2 x3 σ Q → M x1 x2 x3 σ Q') {x1 x2 x3 : Int} {σ : St} (f0 : Fr S_X12_waysItem σ0 σ) (h : wp_X12_item x1 x2 x3 σ (fun r1 σ2 => (0 ≤ r1 ∧ r1 < 768) ∧ ((σ2 17 (r1.toNat) = 0) → wp_X12_waysItem_l32 M Q bigN x1 x2 x3 r1 0 0 σ2) ∧ (¬ (σ2 17 (r1.toNat) = 0) → (0 ≤ r1 ∧ r1 < 768) ∧ Q (σ2 18 (r1.toNat)) σ2))) : wp_X12_item x1 x2 x3 σ (fun r1 σ2 => (0 ≤ r1 ∧ r1 < 768) ∧ ((σ2 17 (r1.toNat) = 0) → wp_X12_waysItem_l32 M Q' bigN x1 x2 x3 r1 0 0 σ2) ∧ (¬ (σ2 17 (r1.toNat) = 0) → (0 ≤ r1 ∧ r1 < 768) ∧ Q' (σ2 18 (r1.toNat)) σ2)) := by
  refine mf_X12_item (fun r1 σ2 h gσ2 => ?_) Fr.rf h
  have fσ2 : Fr S_X12_waysItem σ0 σ2 := f0.tr gσ2 (mkS_sub (by decide) (by decide))
  refine ⟨h.1, ?_⟩; replace h := h.2
  refine ⟨fun hc => ?_, fun hc => ?_⟩
  · replace h := h.1 hc
    exact mf_X12_waysItem_l32 hq hM bigN _ _ _ _ _ _ _ fσ2 h
  · replace h := h.2 hc
    refine ⟨h.1, ?_⟩; replace h := h.2
    exact hq _ _ h fσ2
set_option maxHeartbeats 1000000 in
theorem mf_X12_waysItem_r : ∀ (d : Nat) (x1 : Int) (x2 : Int) (x3 : Int) (σ : St) {Q Q' : Int → St → Prop}, (∀ (r : Int) (σ1 : St), Q r σ1 → Fr S_X12_waysItem σ σ1 → Q' r σ1) → wp_X12_waysItem d x1 x2 x3 σ Q → wp_X12_waysItem d x1 x2 x3 σ Q' := by
  intro d
  induction d with
  | zero => intro _ _ _ _ _ _ _ h; exact h.elim
  | succ d ih =>
    intro x1 x2 x3 σ Q Q' hq h
    unfold wp_X12_waysItem at h ⊢
    exact mf_X12_waysItem_e hq ih Fr.rf h
theorem mf_X12_waysItem {d : Nat} {Q Q' : Int → St → Prop} {σ0 : St} (hq : ∀ (r : Int) (σ1 : St), Q r σ1 → Fr S_X12_waysItem σ0 σ1 → Q' r σ1) {x1 x2 x3 : Int} {σ : St} (f0 : Fr S_X12_waysItem σ0 σ) (h : wp_X12_waysItem d x1 x2 x3 σ Q) : wp_X12_waysItem d x1 x2 x3 σ Q' := mf_X12_waysItem_r d x1 x2 x3 σ (fun r σ1 g1 g2 => hq r σ1 g1 (f0.tr g2 (fun _ _ h => h))) h
set_option maxHeartbeats 1000000 in
theorem mf_X12_ways {Q Q' : Int → St → Prop} {σ0 : St} (hq : ∀ (r : Int) (σ1 : St), Q r σ1 → Fr S_X12_ways σ0 σ1 → Q' r σ1) {x1 x2 x3 : Int} {σ : St} (f0 : Fr S_X12_ways σ0 σ) (h : wp_X12_ways x1 x2 x3 σ Q) : wp_X12_ways x1 x2 x3 σ Q' := by
  unfold wp_X12_ways at h ⊢
  refine mf_X12_isItem (fun r1 σ2 h gσ2 => ?_) Fr.rf h
  have fσ2 : Fr S_X12_ways σ0 σ2 := f0.tr gσ2 (mkS_sub (by decide) (by decide))
  refine ⟨fun hc => ?_, fun hc => ?_⟩
  · replace h := h.1 hc
    refine mf_X12_looks (fun r3 σ4 h gσ4 => ?_) Fr.rf h
    have fσ4 : Fr S_X12_ways σ0 σ4 := fσ2.tr gσ4 (mkS_sub (by decide) (by decide))
    refine mf_X12_laysEndless (fun r5 σ6 h gσ6 => ?_) Fr.rf h
    have fσ6 : Fr S_X12_ways σ0 σ6 := fσ4.tr gσ6 (mkS_sub (by decide) (by decide))
    refine mf_X12_item (fun r7 σ8 h gσ8 => ?_) Fr.rf h
    have fσ8 : Fr S_X12_ways σ0 σ8 := fσ6.tr gσ8 (mkS_sub (by decide) (by decide))
    refine ⟨h.1, ?_⟩; replace h := h.2
    refine ⟨fun hc => ?_, fun hc => ?_⟩
    · replace h := h.1 hc
      refine mf_X12_waysItem (fun r9 σ10 h gσ10 => ?_) Fr.rf h
      have fσ10 : Fr S_X12_ways σ0 σ10 := fσ8.tr gσ10 (mkS_sub (by decide) (by decide))
      refine ⟨fun hc => ?_, fun hc => ?_⟩
      · replace h := h.1 hc
        exact hq _ _ h fσ10
      · replace h := h.2 hc
        exact hq _ _ h fσ10
    · replace h := h.2 hc
      exact hq _ _ h fσ8
  · replace h := h.2 hc
    exact hq _ _ h fσ2
set_option maxHeartbeats 1000000 in
theorem mf_X12_dearPart {Q Q' : Int → St → Prop} {σ0 : St} (hq : ∀ (r : Int) (σ1 : St), Q r σ1 → Fr S_X12_dearPart σ0 σ1 → Q' r σ1) {x1 x2 x3 : Int} {σ : St} (f0 : Fr S_X12_dearPart σ0 σ) (h : wp_X12_dearPart x1 x2 x3 σ Q) : wp_X12_dearPart x1 x2 x3 σ Q' := by
  unfold wp_X12_dearPart at h ⊢
  refine ⟨fun hc => ?_, fun hc => ?_⟩
  · replace h := h.1 hc
    refine mf_X12_item (fun r1 σ2 h gσ2 => ?_) Fr.rf h
    have fσ2 : Fr S_X12_dearPart σ0 σ2 := f0.tr gσ2 (mkS_sub (by decide) (by decide))
    refine ⟨h.1, ?_⟩; replace h := h.2
    exact hq _ _ h fσ2
  · replace h := h.2 hc
    refine mf_X12_fits (fun r3 σ4 h gσ4 => ?_) Fr.rf h
    have fσ4 : Fr S_X12_dearPart σ0 σ4 := f0.tr gσ4 (mkS_sub (by decide) (by decide))
    refine ⟨fun hc => ?_, fun hc => ?_⟩
    · replace h := h.1 hc
      exact hq _ _ h fσ4
    · replace h := h.2 hc
      exact hq _ _ h fσ4
set_option maxHeartbeats 1000000 in
theorem mf_X12_lowersDear_b92 {Q Q' : Int → St → Prop} {σ0 : St} (hq : ∀ (r : Int) (σ1 : St), Q r σ1 → Fr S_X12_lowersDear σ0 σ1 → Q' r σ1) {x1 x2 x3 x4 : Int} {σ : St} (f0 : Fr S_X12_lowersDear σ0 σ) (h : wp_X12_lowersDear_b92 Q x1 x2 x3 x4 σ) : wp_X12_lowersDear_b92 Q' x1 x2 x3 x4 σ := by
  unfold wp_X12_lowersDear_b92 at h ⊢
  refine ⟨h.1, ?_⟩; replace h := h.2
  intro v10 ev10; replace h := h v10 ev10
  refine ⟨h.1, ?_⟩; replace h := h.2
  refine mf_X12_item (fun r11 σ12 h gσ12 => ?_) Fr.rf h
  have fσ12 : Fr S_X12_lowersDear σ0 σ12 := f0.tr gσ12 (mkS_sub (by decide) (by decide))
  refine ⟨h.1, ?_⟩; replace h := h.2
  refine ⟨fun hc => ?_, fun hc => ?_⟩
  · replace h := h.1 hc
    refine ⟨h.1, ?_⟩; replace h := h.2
    refine mf_X12_item (fun r13 σ14 h gσ14 => ?_) Fr.rf h
    have fσ14 : Fr S_X12_lowersDear σ0 σ14 := fσ12.tr gσ14 (mkS_sub (by decide) (by decide))
    refine ⟨h.1, fun σ15 eσ15 => ?_⟩; replace h := h.2 σ15 eσ15; have fσ15 : Fr S_X12_lowersDear σ0 σ15 := by rw [eσ15]; exact fσ14.up rfl
    exact hq _ _ h fσ15
  · replace h := h.2 hc
    exact hq _ _ h fσ12
set_option maxHeartbeats 1000000 in
theorem mf_X12_lowersDear_l34 {Q Q' : Int → St → Prop} {σ0 : St} (hq : ∀ (r : Int) (σ1 : St), Q r σ1 → Fr S_X12_lowersDear σ0 σ1 → Q' r σ1) : ∀ (n : Nat) (x1 : Int) (x2 : Int) (x3 : Int) (x4 : Int) (x5 : Int) (σ : St), Fr S_X12_lowersDear σ0 σ → wp_X12_lowersDear_l34 Q n x1 x2 x3 x4 x5 σ → wp_X12_lowersDear_l34 Q' n x1 x2 x3 x4 x5 σ := by
  intro n
  induction n with
  | zero => intro _ _ _ _ _ _ _ h; exact h.elim
  | succ n ih =>
    intro x1 x2 x3 x4 x5 σ f0 h
    unfold wp_X12_lowersDear_l34 at h ⊢
    refine ⟨fun hc => ?_, fun hc => ?_⟩
    · replace h := h.1 hc
      exact mf_X12_lowersDear_b92 hq f0 h
    · replace h := h.2 hc
      refine ⟨h.1, ?_⟩; replace h := h.2
      refine ⟨fun hc => ?_, fun hc => ?_⟩
      · replace h := h.1 hc
        exact mf_X12_lowersDear_b92 hq f0 h
      · replace h := h.2 hc
        refine ⟨h.1, ?_⟩; replace h := h.2
        refine mf_X12_dearPart (fun r4 σ5 h gσ5 => ?_) Fr.rf h
        have fσ5 : Fr S_X12_lowersDear σ0 σ5 := f0.tr gσ5 (mkS_sub (by decide) (by decide))
        refine ⟨h.1, ?_⟩; replace h := h.2
        refine mf_X12_dearPart (fun r6 σ7 h gσ7 => ?_) Fr.rf h
        have fσ7 : Fr S_X12_lowersDear σ0 σ7 := fσ5.tr gσ7 (mkS_sub (by decide) (by decide))
        intro v8 ev8; replace h := h v8 ev8
        intro v9 ev9; replace h := h v9 ev9
        exact ih _ _ _ _ _ _ fσ7 h
set_option maxHeartbeats 1000000 in
theorem mf_X12_lowersDear_b29 {Q Q' : Int → St → Prop} {σ0 : St} (hq : ∀ (r : Int) (σ1 : St), Q r σ1 → Fr S_X12_lowersDear σ0 σ1 → Q' r σ1) {x1 x2 x3 x4 : Int} {σ : St} (f0 : Fr S_X12_lowersDear σ0 σ) (h : wp_X12_lowersDear_b29 Q x1 x2 x3 x4 σ) : wp_X12_lowersDear_b29 Q' x1 x2 x3 x4 σ := by
  unfold wp_X12_lowersDear_b29 at h ⊢
  intro v3 ev3; replace h := h v3 ev3
  exact mf_X12_lowersDear_l34 hq bigN _ _ _ _ _ _ f0 h
set_option maxHeartbeats 1000000 in
theorem mf_X12_lowersDear {Q Q' : Int → St → Prop} {σ0 : St} (hq : ∀ (r : Int) (σ1 : St), Q r σ1 → Fr S_X12_lowersDear σ0 σ1 → Q' r σ1) {x1 x2 x3 : Int} {σ : St} (f0 : Fr S_X12_lowersDear σ0 σ) (h : wp_X12_lowersDear x1 x2 x3 σ Q) : wp_X12_lowersDear x1 x2 x3 σ Q' := by
  unfold wp_X12_lowersDear at h ⊢
  refine ⟨h.1, ?_⟩; replace h := h.2
  refine ⟨fun hc => ?_, fun hc => ?_⟩
  · replace h := h.1 hc
    exact mf_X12_lowersDear_b29 hq f0 h
  · replace h := h.2 hc
    refine ⟨h.1, ?_⟩; replace h := h.2
    refine mf_X12_dearPart (fun r1 σ2 h gσ2 => ?_) Fr.rf h
    have fσ2 : Fr S_X12_lowersDear σ0 σ2 := f0.tr gσ2 (mkS_sub (by decide) (by decide))
    exact mf_X12_lowersDear_b29 hq fσ2 h
set_option maxHeartbeats 1000000 in
theorem mf_X12_laysDear_b50 {Q Q' : Int → St → Prop} {σ0 : St} (hq : ∀ (r : Int) (σ1 : St), Q r σ1 → Fr S_X12_laysDear σ0 σ1 → Q' r σ1) {K2 K2' : Int → Int → Int → St → Prop} (hK2 : ∀ (x1 : Int) (x2 : Int) (x3 : Int) (σ : St), Fr S_X12_laysDear σ0 σ → K2 x1 x2 x3 σ → K2' x1 x2 x3 σ) {K11 K11' : Int → Int → Int → Int → St → Prop} (hK11 : ∀ (x1 : Int) (x2 : Int) (x3 : Int) (x4 : Int) (σ : St), Fr S_X12_laysDear σ0 σ → K11 x1 x2 x3 x4 σ → K11' x1 x2 x3 x4 σ) {x1 x2 x3 x4 : Int} {σ : St} (f0 : Fr S_X12_laysDear σ0 σ) (h : wp_X12_laysDear_b50 Q K2 K11 x1 x2 x3 x4 σ) : wp_X12_laysDear_b50 Q' K2' K11' x1 x2 x3 x4 σ := by
  unfold wp_X12_laysDear_b50 at h ⊢
  intro v5 ev5; replace h := h v5 ev5
  exact hK11 _ _ _ _ _ f0 h
set_option maxHeartbeats 1000000 in
theorem mf_X12_laysDear_b49 {Q Q' : Int → St → Prop} {σ0 : St} (hq : ∀ (r : Int) (σ1 : St), Q r σ1 → Fr S_X12_laysDear σ0 σ1 → Q' r σ1) {K2 K2' : Int → Int → Int → St → Prop} (hK2 : ∀ (x1 : Int) (x2 : Int) (x3 : Int) (σ : St), Fr S_X12_laysDear σ0 σ → K2 x1 x2 x3 σ → K2' x1 x2 x3 σ) {K11 K11' : Int → Int → Int → Int → St → Prop} (hK11 : ∀ (x1 : Int) (x2 : Int) (x3 : Int) (x4 : Int) (σ : St), Fr S_X12_laysDear σ0 σ → K11 x1 x2 x3 x4 σ → K11' x1 x2 x3 x4 σ) {x1 x2 x4 s0 : Int} {σ : St} (f0 : Fr S_X12_laysDear σ0 σ) (h : wp_X12_laysDear_b49 Q K2 K11 x1 x2 x4 s0 σ) : wp_X12_laysDear_b49 Q' K2' K11' x1 x2 x4 s0 σ := by
  unfold wp_X12_laysDear_b49 at h ⊢
  exact mf_X12_laysDear_b50 hq hK2 hK11 f0 h
set_option maxHeartbeats 1000000 in
theorem mf_X12_laysDear_b44 {Q Q' : Int → St → Prop} {σ0 : St} (hq : ∀ (r : Int) (σ1 : St), Q r σ1 → Fr S_X12_laysDear σ0 σ1 → Q' r σ1) {K2 K2' : Int → Int → Int → St → Prop} (hK2 : ∀ (x1 : Int) (x2 : Int) (x3 : Int) (σ : St), Fr S_X12_laysDear σ0 σ → K2 x1 x2 x3 σ → K2' x1 x2 x3 σ) {K11 K11' : Int → Int → Int → Int → St → Prop} (hK11 : ∀ (x1 : Int) (x2 : Int) (x3 : Int) (x4 : Int) (σ : St), Fr S_X12_laysDear σ0 σ → K11 x1 x2 x3 x4 σ → K11' x1 x2 x3 x4 σ) {x1 x2 x4 : Int} {σ : St} (f0 : Fr S_X12_laysDear σ0 σ) (h : wp_X12_laysDear_b44 Q K2 K11 x1 x2 x4 σ) : wp_X12_laysDear_b44 Q' K2' K11' x1 x2 x4 σ := by
  unfold wp_X12_laysDear_b44 at h ⊢
  exact mf_X12_laysDear_b49 hq hK2 hK11 f0 h
set_option maxHeartbeats 1000000 in
theorem mf_X12_laysDear_l11 {Q Q' : Int → St → Prop} {σ0 : St} (hq : ∀ (r : Int) (σ1 : St), Q r σ1 → Fr S_X12_laysDear σ0 σ1 → Q' r σ1) {K2 K2' : Int → Int → Int → St → Prop} (hK2 : ∀ (x1 : Int) (x2 : Int) (x3 : Int) (σ : St), Fr S_X12_laysDear σ0 σ → K2 x1 x2 x3 σ → K2' x1 x2 x3 σ) : ∀ (n : Nat) (x1 : Int) (x2 : Int) (x3 : Int) (x4 : Int) (σ : St), Fr S_X12_laysDear σ0 σ → wp_X12_laysDear_l11 Q K2 n x1 x2 x3 x4 σ → wp_X12_laysDear_l11 Q' K2' n x1 x2 x3 x4 σ := by
  intro n
  induction n with
  | zero => intro _ _ _ _ _ _ h; exact h.elim
  | succ n ih =>
    intro x1 x2 x3 x4 σ f0 h
    unfold wp_X12_laysDear_l11 at h ⊢
    refine ⟨fun hc => ?_, fun hc => ?_⟩
    · replace h := h.1 hc
      exact hK2 _ _ _ _ f0 h
    · replace h := h.2 hc
      refine mf_X12_isIn (fun r1 σ2 h gσ2 => ?_) Fr.rf h
      have fσ2 : Fr S_X12_laysDear σ0 σ2 := f0.tr gσ2 (mkS_sub (by decide) (by decide))
      refine ⟨fun hc => ?_, fun hc => ?_⟩
      · replace h := h.1 hc
        exact mf_X12_laysDear_b50 hq hK2 ih fσ2 h
      · replace h := h.2 hc
        refine mf_X12_lowersDear (fun r3 σ4 h gσ4 => ?_) Fr.rf h
        have fσ4 : Fr S_X12_laysDear σ0 σ4 := fσ2.tr gσ4 (mkS_sub (by decide) (by decide))
        refine ⟨fun hc => ?_, fun hc => ?_⟩
        · replace h := h.1 hc
          exact mf_X12_laysDear_b44 hq hK2 ih fσ4 h
        · replace h := h.2 hc
          refine ⟨fun hc => ?_, fun hc => ?_⟩
          · replace h := h.1 hc
            exact mf_X12_laysDear_b49 hq hK2 ih fσ4 h
          · replace h := h.2 hc
            exact mf_X12_laysDear_b44 hq hK2 ih fσ4 h
set_option maxHeartbeats 1000000 in
theorem mf_X12_laysDear_l2 {Q Q' : Int → St → Prop} {σ0 : St} (hq : ∀ (r : Int) (σ1 : St), Q r σ1 → Fr S_X12_laysDear σ0 σ1 → Q' r σ1) : ∀ (n : Nat) (x1 : Int) (x2 : Int) (x3 : Int) (σ : St), Fr S_X12_laysDear σ0 σ → wp_X12_laysDear_l2 Q n x1 x2 x3 σ → wp_X12_laysDear_l2 Q' n x1 x2 x3 σ := by
  intro n
  induction n with
  | zero => intro _ _ _ _ _ h; exact h.elim
  | succ n ih =>
    intro x1 x2 x3 σ f0 h
    unfold wp_X12_laysDear_l2 at h ⊢
    refine ⟨fun hc => ?_, fun hc => ?_⟩
    · replace h := h.1 hc
      exact hq _ _ h f0
    · replace h := h.2 hc
      exact mf_X12_laysDear_l11 hq ih bigN _ _ _ _ _ f0 h
set_option maxHeartbeats 1000000 in
theorem mf_X12_laysDear {Q Q' : Int → St → Prop} {σ0 : St} (hq : ∀ (r : Int) (σ1 : St), Q r σ1 → Fr S_X12_laysDear σ0 σ1 → Q' r σ1) {x1 x2 : Int} {σ : St} (f0 : Fr S_X12_laysDear σ0 σ) (h : wp_X12_laysDear x1 x2 σ Q) : wp_X12_laysDear x1 x2 σ Q' := by
  unfold wp_X12_laysDear at h ⊢
  exact mf_X12_laysDear_l2 hq bigN _ _ _ _ f0 h
set_option maxHeartbeats 1000000 in
theorem mf_X12_dearest_l59 {Q Q' : Int → St → Prop} {σ0 : St} (hq : ∀ (r : Int) (σ1 : St), Q r σ1 → Fr S_X12_dearest σ0 σ1 → Q' r σ1) {K47 K47' : Int → Int → Int → Int → St → Prop} (hK47 : ∀ (x1 : Int) (x2 : Int) (x3 : Int) (x4 : Int) (σ : St), Fr S_X12_dearest σ0 σ → K47 x1 x2 x3 x4 σ → K47' x1 x2 x3 x4 σ) : ∀ (n : Nat) (x1 : Int) (x2 : Int) (x3 : Int) (x4 : Int) (x5 : Int) (σ : St), Fr S_X12_dearest σ0 σ → wp_X12_dearest_l59 Q K47 n x1 x2 x3 x4 x5 σ → wp_X12_dearest_l59 Q' K47' n x1 x2 x3 x4 x5 σ := by
  intro n
  induction n with
  | zero => intro _ _ _ _ _ _ _ h; exact h.elim
  | succ n ih =>
    intro x1 x2 x3 x4 x5 σ f0 h
    unfold wp_X12_dearest_l59 at h ⊢
    refine ⟨fun hc => ?_, fun hc => ?_⟩
    · replace h := h.1 hc
      intro v11 ev11; replace h := h v11 ev11
      exact hK47 _ _ _ _ _ f0 h
    · replace h := h.2 hc
      refine mf_X12_laysDear (fun r12 σ13 h gσ13 => ?_) Fr.rf h
      have fσ13 : Fr S_X12_dearest σ0 σ13 := f0.tr gσ13 (mkS_sub (by decide) (by decide))
      intro v14 ev14; replace h := h v14 ev14
      exact ih _ _ _ _ _ _ fσ13 h
set_option maxHeartbeats 1000000 in
theorem mf_X12_dearest_l47 {Q Q' : Int → St → Prop} {σ0 : St} (hq : ∀ (r : Int) (σ1 : St), Q r σ1 → Fr S_X12_dearest σ0 σ1 → Q' r σ1) : ∀ (n : Nat) (x1 : Int) (x2 : Int) (x3 : Int) (x4 : Int) (σ : St), Fr S_X12_dearest σ0 σ → wp_X12_dearest_l47 Q n x1 x2 x3 x4 σ → wp_X12_dearest_l47 Q' n x1 x2 x3 x4 σ := by
  intro n
  induction n with
  | zero => intro _ _ _ _ _ _ h; exact h.elim
  | succ n ih =>
    intro x1 x2 x3 x4 σ f0 h
    unfold wp_X12_dearest_l47 at h ⊢
    refine ⟨fun hc => ?_, fun hc => ?_⟩
    · replace h := h.1 hc
      refine mf_X12_has (fun r7 σ8 h gσ8 => ?_) Fr.rf h
      have fσ8 : Fr S_X12_dearest σ0 σ8 := f0.tr gσ8 (mkS_sub (by decide) (by decide))
      refine ⟨fun hc => ?_, fun hc => ?_⟩
      · replace h := h.1 hc
        exact hq _ _ h fσ8
      · replace h := h.2 hc
        refine mf_X12_item (fun r9 σ10 h gσ10 => ?_) Fr.rf h
        have fσ10 : Fr S_X12_dearest σ0 σ10 := fσ8.tr gσ10 (mkS_sub (by decide) (by decide))
        refine ⟨h.1, ?_⟩; replace h := h.2
        exact hq _ _ h fσ10
    · replace h := h.2 hc
      exact mf_X12_dearest_l59 hq ih bigN _ _ _ _ _ _ f0 h
set_option maxHeartbeats 1000000 in
theorem mf_X12_dearest_l20 {Q Q' : Int → St → Prop} {σ0 : St} (hq : ∀ (r : Int) (σ1 : St), Q r σ1 → Fr S_X12_dearest σ0 σ1 → Q' r σ1) : ∀ (n : Nat) (x1 : Int) (x2 : Int) (x3 : Int) (x4 : Int) (σ : St), Fr S_X12_dearest σ0 σ → wp_X12_dearest_l20 Q n x1 x2 x3 x4 σ → wp_X12_dearest_l20 Q' n x1 x2 x3 x4 σ := by
  intro n
  induction n with
  | zero => intro _ _ _ _ _ _ h; exact h.elim
  | succ n ih =>
    intro x1 x2 x3 x4 σ f0 h
    unfold wp_X12_dearest_l20 at h ⊢
    refine ⟨fun hc => ?_, fun hc => ?_⟩
    · replace h := h.1 hc
      exact mf_X12_dearest_l47 hq bigN _ _ _ _ _ f0 h
    · replace h := h.2 hc
      refine ⟨h.1, fun σ5 eσ5 => ?_⟩; replace h := h.2 σ5 eσ5; have fσ5 : Fr S_X12_dearest σ0 σ5 := by rw [eσ5]; exact f0.up rfl
      intro v6 ev6; replace h := h v6 ev6
      exact ih _ _ _ _ _ fσ5 h
set_option maxHeartbeats 1000000 in
theorem mf_X12_dearest {Q Q' : Int → St → Prop} {σ0 : St} (hq : ∀ (r : Int) (σ1 : St), Q r σ1 → Fr S_X12_dearest σ0 σ1 → Q' r σ1) {x1 x2 x3 : Int} {σ : St} (f0 : Fr S_X12_dearest σ0 σ) (h : wp_X12_dearest x1 x2 x3 σ Q) : wp_X12_dearest x1 x2 x3 σ Q' := by
  unfold wp_X12_dearest at h ⊢
  refine mf_X12_isItem (fun r1 σ2 h gσ2 => ?_) Fr.rf h
  have fσ2 : Fr S_X12_dearest σ0 σ2 := f0.tr gσ2 (mkS_sub (by decide) (by decide))
  refine ⟨fun hc => ?_, fun hc => ?_⟩
  · replace h := h.1 hc
    refine mf_X12_looks (fun r3 σ4 h gσ4 => ?_) Fr.rf h
    have fσ4 : Fr S_X12_dearest σ0 σ4 := fσ2.tr gσ4 (mkS_sub (by decide) (by decide))
    exact mf_X12_dearest_l20 hq bigN _ _ _ _ _ fσ4 h
  · replace h := h.2 hc
    exact hq _ _ h fσ2
set_option maxHeartbeats 1000000 in
theorem mf_X12_meetsPart {Q Q' : Int → St → Prop} {σ0 : St} (hq : ∀ (r : Int) (σ1 : St), Q r σ1 → Fr S_X12_meetsPart σ0 σ1 → Q' r σ1) {M : Int → Int → Int → St → (Int → St → Prop) → Prop} (hM : ∀ (x1 : Int) (x2 : Int) (x3 : Int) (σ : St) {Q Q' : Int → St → Prop}, (∀ (r : Int) (σ1 : St), Q r σ1 → Fr S_X12_meets σ σ1 → Q' r σ1) → M x1 x2 x3 σ Q → M x1 x2 x3 σ Q') {x1 x2 x3 : Int} {σ : St} (f0 : Fr S_X12_meetsPart σ0 σ) (h : wp_X12_meetsPart M x1 x2 x3 σ Q) : wp_X12_meetsPart M x1 x2 x3 σ Q' := by
  unfold wp_X12_meetsPart at h ⊢
  refine ⟨fun hc => ?_, fun hc => ?_⟩
  · replace h := h.1 hc
    exact hq _ _ h f0
  · replace h := h.2 hc
    refine hM _ _ _ _ (fun r1 σ2 h gσ2 => ?_) h
    have fσ2 : Fr S_X12_meetsPart σ0 σ2 := f0.tr gσ2 (mkS_sub (by decide) (by decide))
    exact hq _ _ h fσ2
set_option maxHeartbeats 1000000 in
theorem mf_X12_meets_b215 {Q Q' : Int → St → Prop} {σ0 : St} (hq : ∀ (r : Int) (σ1 : St), Q r σ1 → Fr S_X12_meets σ0 σ1 → Q' r σ1) {M : Int → Int → Int → St → (Int → St → Prop) → Prop} (hM : ∀ (x1 : Int) (x2 : Int) (x3 : Int) (σ : St) {Q Q' : Int → St → Prop}, (∀ (r : Int) (σ1 : St), Q r σ1 → Fr S_X12_meets σ σ1 → Q' r σ1) → M x1 x2 x3 σ Q → M x1 x2 x3 σ Q') {K30 K30' : Int → Int → Int → Int → St → Prop} (hK30 : ∀ (x1 : Int) (x2 : Int) (x3 : Int) (x5 : Int) (σ : St), Fr S_X12_meets σ0 σ → K30 x1 x2 x3 x5 σ → K30' x1 x2 x3 x5 σ) {K120 K120' : Int → Int → Int → Int → Int → St → Prop} (hK120 : ∀ (x1 : Int) (x2 : Int) (x3 : Int) (x5 : Int) (x6 : Int) (σ : St), Fr S_X12_meets σ0 σ → K120 x1 x2 x3 x5 x6 σ → K120' x1 x2 x3 x5 x6 σ) {x1 x2 x3 x5 x6 : Int} {σ : St} (f0 : Fr S_X12_meets σ0 σ) (h : wp_X12_meets_b215 M Q K30 K120 x1 x2 x3 x5 x6 σ) : wp_X12_meets_b215 M Q' K30' K120' x1 x2 x3 x5 x6 σ := by
  unfold wp_X12_meets_b215 at h ⊢
  intro v22 ev22; replace h := h v22 ev22
  exact hK120 _ _ _ _ _ _ f0 h
set_option maxHeartbeats 1000000 in
theorem mf_X12_meets_b221 {Q Q' : Int → St → Prop} {σ0 : St} (hq : ∀ (r : Int) (σ1 : St), Q r σ1 → Fr S_X12_meets σ0 σ1 → Q' r σ1) {M : Int → Int → Int → St → (Int → St → Prop) → Prop} (hM : ∀ (x1 : Int) (x2 : Int) (x3 : Int) (σ : St) {Q Q' : Int → St → Prop}, (∀ (r : Int) (σ1 : St), Q r σ1 → Fr S_X12_meets σ σ1 → Q' r σ1) → M x1 x2 x3 σ Q → M x1 x2 x3 σ Q') {K30 K30' : Int → Int → Int → Int → St → Prop} (hK30 : ∀ (x1 : Int) (x2 : Int) (x3 : Int) (x5 : Int) (σ : St), Fr S_X12_meets σ0 σ → K30 x1 x2 x3 x5 σ → K30' x1 x2 x3 x5 σ) {x1 x2 x3 x5 : Int} {σ : St} (f0 : Fr S_X12_meets σ0 σ) (h : wp_X12_meets_b221 M Q K30 x1 x2 x3 x5 σ) : wp_X12_meets_b221 M Q' K30' x1 x2 x3 x5 σ := by
  unfold wp_X12_meets_b221 at h ⊢
  intro v11 ev11; replace h := h v11 ev11
  exact hK30 _ _ _ _ _ f0 h
set_option maxHeartbeats 1000000 in
theorem mf_X12_meets_l120 {Q Q' : Int → St → Prop} {σ0 : St} (hq : ∀ (r : Int) (σ1 : St), Q r σ1 → Fr S_X12_meets σ0 σ1 → Q' r σ1) {M : Int → Int → Int → St → (Int → St → Prop) → Prop} (hM : ∀ (x1 : Int) (x2 : Int) (x3 : Int) (σ : St) {Q Q' : Int → St → Prop}, (∀ (r : Int) (σ1 : St), Q r σ1 → Fr S_X12_meets σ σ1 → Q' r σ1) → M x1 x2 x3 σ Q → M x1 x2 x3 σ Q') {K30 K30' : Int → Int → Int → Int → St → Prop} (hK30 : ∀ (x1 : Int) (x2 : Int) (x3 : Int) (x5 : Int) (σ : St), Fr S_X12_meets σ0 σ → K30 x1 x2 x3 x5 σ → K30' x1 x2 x3 x5 σ) : ∀ (n : Nat) (x1 : Int) (x2 : Int) (x3 : Int) (x5 : Int) (x6 : Int) (σ : St), Fr S_X12_meets σ0 σ → wp_X12_meets_l120 M Q K30 n x1 x2 x3 x5 x6 σ → wp_X12_meets_l120 M Q' K30' n x1 x2 x3 x5 x6 σ := by
  intro n
  induction n with
  | zero => intro _ _ _ _ _ _ _ h; exact h.elim
  | succ n ih =>
    intro x1 x2 x3 x5 x6 σ f0 h
    unfold wp_X12_meets_l120 at h ⊢
    refine ⟨fun hc => ?_, fun hc => ?_⟩
    · replace h := h.1 hc
      exact mf_X12_meets_b221 hq hM hK30 f0 h
    · replace h := h.2 hc
      refine ⟨h.1, ?_⟩; replace h := h.2
      refine ⟨fun hc => ?_, fun hc => ?_⟩
      · replace h := h.1 hc
        exact mf_X12_meets_b221 hq hM hK30 f0 h
      · replace h := h.2 hc
        refine ⟨h.1, ?_⟩; replace h := h.2
        refine mf_X12_fits (fun r13 σ14 h gσ14 => ?_) Fr.rf h
        have fσ14 : Fr S_X12_meets σ0 σ14 := f0.tr gσ14 (mkS_sub (by decide) (by decide))
        refine ⟨fun hc => ?_, fun hc => ?_⟩
        · replace h := h.1 hc
          exact mf_X12_meets_b215 hq hM hK30 ih fσ14 h
        · replace h := h.2 hc
          refine ⟨h.1, ?_⟩; replace h := h.2
          refine mf_X12_fits (fun r15 σ16 h gσ16 => ?_) Fr.rf h
          have fσ16 : Fr S_X12_meets σ0 σ16 := fσ14.tr gσ16 (mkS_sub (by decide) (by decide))
          refine ⟨fun hc => ?_, fun hc => ?_⟩
          · replace h := h.1 hc
            intro σ17 eσ17; replace h := h σ17 eσ17; have fσ17 : Fr S_X12_meets σ0 σ17 := by rw [eσ17]; exact fσ16.up rfl
            refine ⟨h.1, ?_⟩; replace h := h.2
            refine mf_X12_meetsPart (fun r18 σ19 h gσ19 => ?_) hM Fr.rf h
            have fσ19 : Fr S_X12_meets σ0 σ19 := fσ17.tr gσ19 (mkS_sub (by decide) (by decide))
            refine ⟨h.1, ?_⟩; replace h := h.2
            refine mf_X12_meetsPart (fun r20 σ21 h gσ21 => ?_) hM Fr.rf h
            have fσ21 : Fr S_X12_meets σ0 σ21 := fσ19.tr gσ21 (mkS_sub (by decide) (by decide))
            exact mf_X12_meets_b215 hq hM hK30 ih fσ21 h
          · replace h := h.2 hc
            exact mf_X12_meets_b215 hq hM hK30 ih fσ16 h
set_option maxHeartbeats 1000000 in
theorem mf_X12_meets_b115 {Q Q' : Int → St → Prop} {σ0 : St} (hq : ∀ (r : Int) (σ1 : St), Q r σ1 → Fr S_X12_meets σ0 σ1 → Q' r σ1) {M : Int → Int → Int → St → (Int → St → Prop) → Prop} (hM : ∀ (x1 : Int) (x2 : Int) (x3 : Int) (σ : St) {Q Q' : Int → St → Prop}, (∀ (r : Int) (σ1 : St), Q r σ1 → Fr S_X12_meets σ σ1 → Q' r σ1) → M x1 x2 x3 σ Q → M x1 x2 x3 σ Q') {K30 K30' : Int → Int → Int → Int → St → Prop} (hK30 : ∀ (x1 : Int) (x2 : Int) (x3 : Int) (x5 : Int) (σ : St), Fr S_X12_meets σ0 σ → K30 x1 x2 x3 x5 σ → K30' x1 x2 x3 x5 σ) {x1 x2 x3 x5 : Int} {σ : St} (f0 : Fr S_X12_meets σ0 σ) (h : wp_X12_meets_b115 M Q K30 x1 x2 x3 x5 σ) : wp_X12_meets_b115 M Q' K30' x1 x2 x3 x5 σ := by
  unfold wp_X12_meets_b115 at h ⊢
  intro v12 ev12; replace h := h v12 ev12
  exact mf_X12_meets_l120 hq hM hK30 bigN _ _ _ _ _ _ f0 h
set_option maxHeartbeats 1000000 in
theorem mf_X12_meets_l30 {Q Q' : Int → St → Prop} {σ0 : St} (hq : ∀ (r : Int) (σ1 : St), Q r σ1 → Fr S_X12_meets σ0 σ1 → Q' r σ1) {M : Int → Int → Int → St → (Int → St → Prop) → Prop} (hM : ∀ (x1 : Int) (x2 : Int) (x3 : Int) (σ : St) {Q Q' : Int → St → Prop}, (∀ (r : Int) (σ1 : St), Q r σ1 → Fr S_X12_meets σ σ1 → Q' r σ1) → M x1 x2 x3 σ Q → M x1 x2 x3 σ Q') : ∀ (n : Nat) (x1 : Int) (x2 : Int) (x3 : Int) (x5 : Int) (σ : St), Fr S_X12_meets σ0 σ → wp_X12_meets_l30 M Q n x1 x2 x3 x5 σ → wp_X12_meets_l30 M Q' n x1 x2 x3 x5 σ := by
  intro n
  induction n with
  | zero => intro _ _ _ _ _ _ h; exact h.elim
  | succ n ih =>
    intro x1 x2 x3 x5 σ f0 h
    unfold wp_X12_meets_l30 at h ⊢
    refine ⟨fun hc => ?_, fun hc => ?_⟩
    · replace h := h.1 hc
      exact hq _ _ h f0
    · replace h := h.2 hc
      refine mf_X12_isIn (fun r4 σ5 h gσ5 => ?_) Fr.rf h
      have fσ5 : Fr S_X12_meets σ0 σ5 := f0.tr gσ5 (mkS_sub (by decide) (by decide))
      refine ⟨fun hc => ?_, fun hc => ?_⟩
      · replace h := h.1 hc
        exact mf_X12_meets_b221 hq hM ih fσ5 h
      · replace h := h.2 hc
        refine ⟨h.1, ?_⟩; replace h := h.2
        refine ⟨fun hc => ?_, fun hc => ?_⟩
        · replace h := h.1 hc
          refine ⟨h.1, ?_⟩; replace h := h.2
          refine ⟨fun hc => ?_, fun hc => ?_⟩
          · replace h := h.1 hc
            exact mf_X12_meets_b115 hq hM ih fσ5 h
          · replace h := h.2 hc
            refine ⟨h.1, ?_⟩; replace h := h.2
            refine mf_X12_fits (fun r6 σ7 h gσ7 => ?_) Fr.rf h
            have fσ7 : Fr S_X12_meets σ0 σ7 := fσ5.tr gσ7 (mkS_sub (by decide) (by decide))
            refine ⟨fun hc => ?_, fun hc => ?_⟩
            · replace h := h.1 hc
              exact mf_X12_meets_b115 hq hM ih fσ7 h
            · replace h := h.2 hc
              intro σ8 eσ8; replace h := h σ8 eσ8; have fσ8 : Fr S_X12_meets σ0 σ8 := by rw [eσ8]; exact fσ7.up rfl
              refine ⟨h.1, ?_⟩; replace h := h.2
              refine mf_X12_meetsPart (fun r9 σ10 h gσ10 => ?_) hM Fr.rf h
              have fσ10 : Fr S_X12_meets σ0 σ10 := fσ8.tr gσ10 (mkS_sub (by decide) (by decide))
              exact mf_X12_meets_b115 hq hM ih fσ10 h
        · replace h := h.2 hc
          exact mf_X12_meets_b221 hq hM ih fσ5 h
set_option maxHeartbeats 1000000 in
theorem mf_X12_meets_e {Q Q' : Int → St → Prop} {σ0 : St} (hq : ∀ (r : Int) (σ1 : St), Q r σ1 → Fr S_X12_meets σ0 σ1 → Q' r σ1) {M : Int → Int → Int → St → (Int → St → Prop) → Prop} (hM : ∀ (x1 : Int) (x2 : Int) (x3 : Int) (σ : St) {Q Q' : Int → St → Prop}, (∀ (r : Int) (σ1 : St), Q r σ1 → Fr S_X12_meets σ σ1 → Q' r σ1) → M x1 x2 x3 σ Q → M x1 x2 x3 σ Q') {x1 x2 x3 : Int} {σ : St} (f0 : Fr S_X12_meets σ0 σ) (h : wp_X12_item x1 x2 x3 σ (fun r1 σ2 => (0 ≤ r1 ∧ r1 < 768) ∧ ((σ2 21 (r1.toNat) = 0) → (0 ≤ r1 ∧ r1 < 768) ∧ ∀ σ3 : St, σ3 = upS σ2 21 r1.toNat (b_and 1 1) → wp_X12_meets_l30 M Q bigN x1 x2 x3 0 σ3) ∧ (¬ (σ2 21 (r1.toNat) = 0) → Q 0 σ2))) : wp_X12_item x1 x2 x3 σ (fun r1 σ2 => (0 ≤ r1 ∧ r1 < 768) ∧ ((σ2 21 (r1.toNat) = 0) → (0 ≤ r1 ∧ r1 < 768) ∧ ∀ σ3 : St, σ3 = upS σ2 21 r1.toNat (b_and 1 1) → wp_X12_meets_l30 M Q' bigN x1 x2 x3 0 σ3) ∧ (¬ (σ2 21 (r1.toNat) = 0) → Q' 0 σ2)) := by
  refine mf_X12_item (fun r1 σ2 h gσ2 => ?_) Fr.rf h
  have fσ2 : Fr S_X12_meets σ0 σ2 := f0.tr gσ2 (mkS_sub (by decide) (by decide))
  refine ⟨h.1, ?_⟩; replace h := h.2
  refine ⟨fun hc => ?_, fun hc => ?_⟩
  · replace h := h.1 hc
    refine ⟨h.1, fun σ3 eσ3 => ?_⟩; replace h := h.2 σ3 eσ3; have fσ3 : Fr S_X12_meets σ0 σ3 := by rw [eσ3]; exact fσ2.up rfl
    exact mf_X12_meets_l30 hq hM bigN _ _ _ _ _ fσ3 h
  · replace h := h.2 hc
    exact hq _ _ h fσ2
set_option maxHeartbeats 1000000 in
theorem mf_X12_meets_r : ∀ (d : Nat) (x1 : Int) (x2 : Int) (x3 : Int) (σ : St) {Q Q' : Int → St → Prop}, (∀ (r : Int) (σ1 : St), Q r σ1 → Fr S_X12_meets σ σ1 → Q' r σ1) → wp_X12_meets d x1 x2 x3 σ Q → wp_X12_meets d x1 x2 x3 σ Q' := by
  intro d
  induction d with
  | zero => intro _ _ _ _ _ _ _ h; exact h.elim
  | succ d ih =>
    intro x1 x2 x3 σ Q Q' hq h
    unfold wp_X12_meets at h ⊢
    exact mf_X12_meets_e hq ih Fr.rf h
theorem mf_X12_meets {d : Nat} {Q Q' : Int → St → Prop} {σ0 : St} (hq : ∀ (r : Int) (σ1 : St), Q r σ1 → Fr S_X12_meets σ0 σ1 → Q' r σ1) {x1 x2 x3 : Int} {σ : St} (f0 : Fr S_X12_meets σ0 σ) (h : wp_X12_meets d x1 x2 x3 σ Q) : wp_X12_meets d x1 x2 x3 σ Q' := mf_X12_meets_r d x1 x2 x3 σ (fun r σ1 g1 g2 => hq r σ1 g1 (f0.tr g2 (fun _ _ h => h))) h
set_option maxHeartbeats 1000000 in
theorem mf_X12_used_b135 {Q Q' : Int → St → Prop} {σ0 : St} (hq : ∀ (r : Int) (σ1 : St), Q r σ1 → Fr S_X12_used σ0 σ1 → Q' r σ1) {K94 K94' : Int → Int → Int → Int → Int → St → Prop} (hK94 : ∀ (x1 : Int) (x2 : Int) (x3 : Int) (x5 : Int) (x7 : Int) (σ : St), Fr S_X12_used σ0 σ → K94 x1 x2 x3 x5 x7 σ → K94' x1 x2 x3 x5 x7 σ) {x1 x2 x3 x5 x7 : Int} {σ : St} (f0 : Fr S_X12_used σ0 σ) (h : wp_X12_used_b135 Q K94 x1 x2 x3 x5 x7 σ) : wp_X12_used_b135 Q' K94' x1 x2 x3 x5 x7 σ := by
  unfold wp_X12_used_b135 at h ⊢
  intro v19 ev19; replace h := h v19 ev19
  exact hK94 _ _ _ _ _ _ f0 h
set_option maxHeartbeats 1000000 in
theorem mf_X12_used_l94 {Q Q' : Int → St → Prop} {σ0 : St} (hq : ∀ (r : Int) (σ1 : St), Q r σ1 → Fr S_X12_used σ0 σ1 → Q' r σ1) : ∀ (n : Nat) (x1 : Int) (x2 : Int) (x3 : Int) (x5 : Int) (x7 : Int) (σ : St), Fr S_X12_used σ0 σ → wp_X12_used_l94 Q n x1 x2 x3 x5 x7 σ → wp_X12_used_l94 Q' n x1 x2 x3 x5 x7 σ := by
  intro n
  induction n with
  | zero => intro _ _ _ _ _ _ _ h; exact h.elim
  | succ n ih =>
    intro x1 x2 x3 x5 x7 σ f0 h
    unfold wp_X12_used_l94 at h ⊢
    refine ⟨fun hc => ?_, fun hc => ?_⟩
    · replace h := h.1 hc
      exact hq _ _ h f0
    · replace h := h.2 hc
      refine mf_X12_laysLeast (fun r14 σ15 h gσ15 => ?_) Fr.rf h
      have fσ15 : Fr S_X12_used σ0 σ15 := f0.tr gσ15 (mkS_sub (by decide) (by decide))
      refine mf_X12_has (fun r16 σ17 h gσ17 => ?_) Fr.rf h
      have fσ17 : Fr S_X12_used σ0 σ17 := fσ15.tr gσ17 (mkS_sub (by decide) (by decide))
      refine ⟨fun hc => ?_, fun hc => ?_⟩
      · replace h := h.1 hc
        exact mf_X12_used_b135 hq ih fσ17 h
      · replace h := h.2 hc
        intro v18 ev18; replace h := h v18 ev18
        exact mf_X12_used_b135 hq ih fσ17 h
set_option maxHeartbeats 1000000 in
theorem mf_X12_used_l49 {Q Q' : Int → St → Prop} {σ0 : St} (hq : ∀ (r : Int) (σ1 : St), Q r σ1 → Fr S_X12_used σ0 σ1 → Q' r σ1) : ∀ (n : Nat) (x1 : Int) (x2 : Int) (x3 : Int) (x4 : Int) (x5 : Int) (σ : St), Fr S_X12_used σ0 σ → wp_X12_used_l49 Q n x1 x2 x3 x4 x5 σ → wp_X12_used_l49 Q' n x1 x2 x3 x4 x5 σ := by
  intro n
  induction n with
  | zero => intro _ _ _ _ _ _ _ h; exact h.elim
  | succ n ih =>
    intro x1 x2 x3 x4 x5 σ f0 h
    unfold wp_X12_used_l49 at h ⊢
    refine ⟨fun hc => ?_, fun hc => ?_⟩
    · replace h := h.1 hc
      refine ⟨fun hc => ?_, fun hc => ?_⟩
      · replace h := h.1 hc
        exact mf_X12_used_l94 hq bigN _ _ _ _ _ _ f0 h
      · replace h := h.2 hc
        refine mf_X12_meets (fun r10 σ11 h gσ11 => ?_) Fr.rf h
        have fσ11 : Fr S_X12_used σ0 σ11 := f0.tr gσ11 (mkS_sub (by decide) (by decide))
        exact hq _ _ h fσ11
    · replace h := h.2 hc
      refine ⟨h.1, fun σ12 eσ12 => ?_⟩; replace h := h.2 σ12 eσ12; have fσ12 : Fr S_X12_used σ0 σ12 := by rw [eσ12]; exact f0.up rfl
      intro v13 ev13; replace h := h v13 ev13
      exact ih _ _ _ _ _ _ fσ12 h
set_option maxHeartbeats 1000000 in
theorem mf_X12_used {Q Q' : Int → St → Prop} {σ0 : St} (hq : ∀ (r : Int) (σ1 : St), Q r σ1 → Fr S_X12_used σ0 σ1 → Q' r σ1) {x1 x2 x3 x4 : Int} {σ : St} (f0 : Fr S_X12_used σ0 σ) (h : wp_X12_used x1 x2 x3 x4 σ Q) : wp_X12_used x1 x2 x3 x4 σ Q' := by
  unfold wp_X12_used at h ⊢
  refine mf_X12_isItem (fun r1 σ2 h gσ2 => ?_) Fr.rf h
  have fσ2 : Fr S_X12_used σ0 σ2 := f0.tr gσ2 (mkS_sub (by decide) (by decide))
  refine ⟨fun hc => ?_, fun hc => ?_⟩
  · replace h := h.1 hc
    exact hq _ _ h fσ2
  · replace h := h.2 hc
    refine mf_X12_in (fun r3 σ4 h gσ4 => ?_) Fr.rf h
    have fσ4 : Fr S_X12_used σ0 σ4 := fσ2.tr gσ4 (mkS_sub (by decide) (by decide))
    refine ⟨fun hc => ?_, fun hc => ?_⟩
    · replace h := h.1 hc
      refine mf_X12_looks (fun r5 σ6 h gσ6 => ?_) Fr.rf h
      have fσ6 : Fr S_X12_used σ0 σ6 := fσ4.tr gσ6 (mkS_sub (by decide) (by decide))
      refine mf_X12_has (fun r7 σ8 h gσ8 => ?_) Fr.rf h
      have fσ8 : Fr S_X12_used σ0 σ8 := fσ6.tr gσ8 (mkS_sub (by decide) (by decide))
      refine ⟨fun hc => ?_, fun hc => ?_⟩
      · replace h := h.1 hc
        intro σ9 eσ9; replace h := h σ9 eσ9; have fσ9 : Fr S_X12_used σ0 σ9 := by rw [eσ9]; exact fσ8.up rfl
        exact mf_X12_used_l49 hq bigN _ _ _ _ _ _ fσ9 h
      · replace h := h.2 hc
        exact hq _ _ h fσ8
    · replace h := h.2 hc
      exact hq _ _ h fσ4
set_option maxHeartbeats 1000000 in
theorem mf_X12_span {Q Q' : Int → St → Prop} {σ0 : St} (hq : ∀ (r : Int) (σ1 : St), Q r σ1 → Fr S_X12_span σ0 σ1 → Q' r σ1) {x0 x1 : Int} {σ : St} (f0 : Fr S_X12_span σ0 σ) (h : wp_X12_span x0 x1 σ Q) : wp_X12_span x0 x1 σ Q' := by
  unfold wp_X12_span at h ⊢
  exact hq _ _ h f0
set_option maxHeartbeats 1000000 in
theorem mf_X12_rowOf_l2 {Q Q' : Int → St → Prop} {σ0 : St} (hq : ∀ (r : Int) (σ1 : St), Q r σ1 → Fr S_X12_rowOf σ0 σ1 → Q' r σ1) : ∀ (n : Nat) (x1 : Int) (x2 : Int) (σ : St), Fr S_X12_rowOf σ0 σ → wp_X12_rowOf_l2 Q n x1 x2 σ → wp_X12_rowOf_l2 Q' n x1 x2 σ := by
  intro n
  induction n with
  | zero => intro _ _ _ _ h; exact h.elim
  | succ n ih =>
    intro x1 x2 σ f0 h
    unfold wp_X12_rowOf_l2 at h ⊢
    refine ⟨h.1, ?_⟩; replace h := h.2
    refine ⟨fun hc => ?_, fun hc => ?_⟩
    · replace h := h.1 hc
      exact hq _ _ h f0
    · replace h := h.2 hc
      intro v1 ev1; replace h := h v1 ev1
      exact ih _ _ _ f0 h
set_option maxHeartbeats 1000000 in
theorem mf_X12_rowOf {Q Q' : Int → St → Prop} {σ0 : St} (hq : ∀ (r : Int) (σ1 : St), Q r σ1 → Fr S_X12_rowOf σ0 σ1 → Q' r σ1) {x1 : Int} {σ : St} (f0 : Fr S_X12_rowOf σ0 σ) (h : wp_X12_rowOf x1 σ Q) : wp_X12_rowOf x1 σ Q' := by
  unfold wp_X12_rowOf at h ⊢
  exact mf_X12_rowOf_l2 hq bigN _ _ _ f0 h
set_option maxHeartbeats 1000000 in
theorem mf_X12_failsPart_b23 {Q Q' : Int → St → Prop} {σ0 : St} (hq : ∀ (r : Int) (σ1 : St), Q r σ1 → Fr S_X12_failsPart σ0 σ1 → Q' r σ1) {σ : St} (f0 : Fr S_X12_failsPart σ0 σ) (h : wp_X12_failsPart_b23 Q  σ) : wp_X12_failsPart_b23 Q'  σ := by
  unfold wp_X12_failsPart_b23 at h ⊢
  exact hq _ _ h f0
set_option maxHeartbeats 1000000 in
theorem mf_X12_failsPart {Q Q' : Int → St → Prop} {σ0 : St} (hq : ∀ (r : Int) (σ1 : St), Q r σ1 → Fr S_X12_failsPart σ0 σ1 → Q' r σ1) {x1 x2 x3 : Int} {σ : St} (f0 : Fr S_X12_failsPart σ0 σ) (h : wp_X12_failsPart x1 x2 x3 σ Q) : wp_X12_failsPart x1 x2 x3 σ Q' := by
  unfold wp_X12_failsPart at h ⊢
  refine ⟨fun hc => ?_, fun hc => ?_⟩
  · replace h := h.1 hc
    exact mf_X12_failsPart_b23 hq f0 h
  · replace h := h.2 hc
    refine mf_X12_span (fun r1 σ2 h gσ2 => ?_) Fr.rf h
    have fσ2 : Fr S_X12_failsPart σ0 σ2 := f0.tr gσ2 (mkS_sub (by decide) (by decide))
    refine ⟨h.1, ?_⟩; replace h := h.2
    refine ⟨fun hc => ?_, fun hc => ?_⟩
    · replace h := h.1 hc
      exact mf_X12_failsPart_b23 hq fσ2 h
    · replace h := h.2 hc
      exact hq _ _ h fσ2
set_option maxHeartbeats 1000000 in
theorem mf_X12_sumPart {Q Q' : Int → St → Prop} {σ0 : St} (hq : ∀ (r : Int) (σ1 : St), Q r σ1 → Fr S_X12_sumPart σ0 σ1 → Q' r σ1) {x1 x2 x3 : Int} {σ : St} (f0 : Fr S_X12_sumPart σ0 σ) (h : wp_X12_sumPart x1 x2 x3 σ Q) : wp_X12_sumPart x1 x2 x3 σ Q' := by
  unfold wp_X12_sumPart at h ⊢
  refine ⟨fun hc => ?_, fun hc => ?_⟩
  · replace h := h.1 hc
    refine mf_X12_item (fun r1 σ2 h gσ2 => ?_) Fr.rf h
    have fσ2 : Fr S_X12_sumPart σ0 σ2 := f0.tr gσ2 (mkS_sub (by decide) (by decide))
    refine ⟨h.1, ?_⟩; replace h := h.2
    exact hq _ _ h fσ2
  · replace h := h.2 hc
    exact hq _ _ h f0
set_option maxHeartbeats 1000000 in
theorem mf_X12_brings_b113 {Q Q' : Int → St → Prop} {σ0 : St} (hq : ∀ (r : Int) (σ1 : St), Q r σ1 → Fr S_X12_brings σ0 σ1 → Q' r σ1) {s0 s1 s2 : Int} {σ : St} (f0 : Fr S_X12_brings σ0 σ) (h : wp_X12_brings_b113 Q s0 s1 s2 σ) : wp_X12_brings_b113 Q' s0 s1 s2 σ := by
  unfold wp_X12_brings_b113 at h ⊢
  refine ⟨h.1, fun σ23 eσ23 => ?_⟩; replace h := h.2 σ23 eσ23; have fσ23 : Fr S_X12_brings σ0 σ23 := by rw [eσ23]; exact f0.up rfl
  exact hq _ _ h fσ23
set_option maxHeartbeats 1000000 in
theorem mf_X12_brings_b68 {Q Q' : Int → St → Prop} {σ0 : St} (hq : ∀ (r : Int) (σ1 : St), Q r σ1 → Fr S_X12_brings σ0 σ1 → Q' r σ1) {x1 x4 s0 : Int} {σ : St} (f0 : Fr S_X12_brings σ0 σ) (h : wp_X12_brings_b68 Q x1 x4 s0 σ) : wp_X12_brings_b68 Q' x1 x4 s0 σ := by
  unfold wp_X12_brings_b68 at h ⊢
  refine ⟨h.1, ?_⟩; replace h := h.2
  refine ⟨h.1, ?_⟩; replace h := h.2
  refine ⟨fun hc => ?_, fun hc => ?_⟩
  · replace h := h.1 hc
    refine ⟨h.1, ?_⟩; replace h := h.2
    exact mf_X12_brings_b113 hq f0 h
  · replace h := h.2 hc
    refine ⟨h.1, ?_⟩; replace h := h.2
    exact mf_X12_brings_b113 hq f0 h
set_option maxHeartbeats 1000000 in
theorem mf_X12_brings_b266 {Q Q' : Int → St → Prop} {σ0 : St} (hq : ∀ (r : Int) (σ1 : St), Q r σ1 → Fr S_X12_brings σ0 σ1 → Q' r σ1) {K125 K125' : Int → Int → Int → Int → Int → Int → St → Prop} (hK125 : ∀ (x1 : Int) (x2 : Int) (x3 : Int) (x4 : Int) (x5 : Int) (x6 : Int) (σ : St), Fr S_X12_brings σ0 σ → K125 x1 x2 x3 x4 x5 x6 σ → K125' x1 x2 x3 x4 x5 x6 σ) {x1 x2 x3 x4 x5 x6 : Int} {σ : St} (f0 : Fr S_X12_brings σ0 σ) (h : wp_X12_brings_b266 Q K125 x1 x2 x3 x4 x5 x6 σ) : wp_X12_brings_b266 Q' K125' x1 x2 x3 x4 x5 x6 σ := by
  unfold wp_X12_brings_b266 at h ⊢
  intro v17 ev17; replace h := h v17 ev17
  exact hK125 _ _ _ _ _ _ _ f0 h
set_option maxHeartbeats 1000000 in
theorem mf_X12_brings_b208 {Q Q' : Int → St → Prop} {σ0 : St} (hq : ∀ (r : Int) (σ1 : St), Q r σ1 → Fr S_X12_brings σ0 σ1 → Q' r σ1) {K125 K125' : Int → Int → Int → Int → Int → Int → St → Prop} (hK125 : ∀ (x1 : Int) (x2 : Int) (x3 : Int) (x4 : Int) (x5 : Int) (x6 : Int) (σ : St), Fr S_X12_brings σ0 σ → K125 x1 x2 x3 x4 x5 x6 σ → K125' x1 x2 x3 x4 x5 x6 σ) {x1 x2 x3 x4 x6 s0 : Int} {σ : St} (f0 : Fr S_X12_brings σ0 σ) (h : wp_X12_brings_b208 Q K125 x1 x2 x3 x4 x6 s0 σ) : wp_X12_brings_b208 Q' K125' x1 x2 x3 x4 x6 s0 σ := by
  unfold wp_X12_brings_b208 at h ⊢
  refine ⟨h.1, ?_⟩; replace h := h.2
  refine ⟨h.1, ?_⟩; replace h := h.2
  refine ⟨h.1, ?_⟩; replace h := h.2
  refine mf_X12_sumPart (fun r18 σ19 h gσ19 => ?_) Fr.rf h
  have fσ19 : Fr S_X12_brings σ0 σ19 := f0.tr gσ19 (mkS_sub (by decide) (by decide))
  refine ⟨h.1, ?_⟩; replace h := h.2
  refine mf_X12_sumPart (fun r20 σ21 h gσ21 => ?_) Fr.rf h
  have fσ21 : Fr S_X12_brings σ0 σ21 := fσ19.tr gσ21 (mkS_sub (by decide) (by decide))
  refine ⟨h.1, fun σ22 eσ22 => ?_⟩; replace h := h.2 σ22 eσ22; have fσ22 : Fr S_X12_brings σ0 σ22 := by rw [eσ22]; exact fσ21.up rfl
  exact mf_X12_brings_b266 hq hK125 fσ22 h
set_option maxHeartbeats 1000000 in
theorem mf_X12_brings_b207 {Q Q' : Int → St → Prop} {σ0 : St} (hq : ∀ (r : Int) (σ1 : St), Q r σ1 → Fr S_X12_brings σ0 σ1 → Q' r σ1) {K125 K125' : Int → Int → Int → Int → Int → Int → St → Prop} (hK125 : ∀ (x1 : Int) (x2 : Int) (x3 : Int) (x4 : Int) (x5 : Int) (x6 : Int) (σ : St), Fr S_X12_brings σ0 σ → K125 x1 x2 x3 x4 x5 x6 σ → K125' x1 x2 x3 x4 x5 x6 σ) {x1 x2 x3 x4 x6 : Int} {σ : St} (f0 : Fr S_X12_brings σ0 σ) (h : wp_X12_brings_b207 Q K125 x1 x2 x3 x4 x6 σ) : wp_X12_brings_b207 Q' K125' x1 x2 x3 x4 x6 σ := by
  unfold wp_X12_brings_b207 at h ⊢
  exact mf_X12_brings_b208 hq hK125 f0 h
set_option maxHeartbeats 1000000 in
theorem mf_X12_brings_l125 {Q Q' : Int → St → Prop} {σ0 : St} (hq : ∀ (r : Int) (σ1 : St), Q r σ1 → Fr S_X12_brings σ0 σ1 → Q' r σ1) : ∀ (n : Nat) (x1 : Int) (x2 : Int) (x3 : Int) (x4 : Int) (x5 : Int) (x6 : Int) (σ : St), Fr S_X12_brings σ0 σ → wp_X12_brings_l125 Q n x1 x2 x3 x4 x5 x6 σ → wp_X12_brings_l125 Q' n x1 x2 x3 x4 x5 x6 σ := by
  intro n
  induction n with
  | zero => intro _ _ _ _ _ _ _ _ h; exact h.elim
  | succ n ih =>
    intro x1 x2 x3 x4 x5 x6 σ f0 h
    unfold wp_X12_brings_l125 at h ⊢
    refine ⟨fun hc => ?_, fun hc => ?_⟩
    · replace h := h.1 hc
      exact ⟨h.1, hq _ _ h.2 f0⟩
    · replace h := h.2 hc
      refine ⟨h.1, ?_⟩; replace h := h.2
      refine mf_X12_fits (fun r9 σ10 h gσ10 => ?_) Fr.rf h
      have fσ10 : Fr S_X12_brings σ0 σ10 := f0.tr gσ10 (mkS_sub (by decide) (by decide))
      refine ⟨fun hc => ?_, fun hc => ?_⟩
      · replace h := h.1 hc
        exact mf_X12_brings_b266 hq ih fσ10 h
      · replace h := h.2 hc
        refine ⟨h.1, ?_⟩; replace h := h.2
        refine mf_X12_fits (fun r11 σ12 h gσ12 => ?_) Fr.rf h
        have fσ12 : Fr S_X12_brings σ0 σ12 := fσ10.tr gσ12 (mkS_sub (by decide) (by decide))
        refine ⟨fun hc => ?_, fun hc => ?_⟩
        · replace h := h.1 hc
          refine ⟨fun hc => ?_, fun hc => ?_⟩
          · replace h := h.1 hc
            exact mf_X12_brings_b207 hq ih fσ12 h
          · replace h := h.2 hc
            refine ⟨h.1, ?_⟩; replace h := h.2
            refine mf_X12_failsPart (fun r13 σ14 h gσ14 => ?_) Fr.rf h
            have fσ14 : Fr S_X12_brings σ0 σ14 := fσ12.tr gσ14 (mkS_sub (by decide) (by decide))
            refine ⟨fun hc => ?_, fun hc => ?_⟩
            · replace h := h.1 hc
              exact mf_X12_brings_b207 hq ih fσ14 h
            · replace h := h.2 hc
              refine ⟨h.1, ?_⟩; replace h := h.2
              refine mf_X12_failsPart (fun r15 σ16 h gσ16 => ?_) Fr.rf h
              have fσ16 : Fr S_X12_brings σ0 σ16 := fσ14.tr gσ16 (mkS_sub (by decide) (by decide))
              refine ⟨fun hc => ?_, fun hc => ?_⟩
              · replace h := h.1 hc
                exact mf_X12_brings_b207 hq ih fσ16 h
              · replace h := h.2 hc
                exact mf_X12_brings_b208 hq ih fσ16 h
        · replace h := h.2 hc
          exact mf_X12_brings_b266 hq ih fσ12 h
set_option maxHeartbeats 1000000 in
theorem mf_X12_brings {Q Q' : Int → St → Prop} {σ0 : St} (hq : ∀ (r : Int) (σ1 : St), Q r σ1 → Fr S_X12_brings σ0 σ1 → Q' r σ1) {x1 x2 x3 : Int} {σ : St} (f0 : Fr S_X12_brings σ0 σ) (h : wp_X12_brings x1 x2 x3 σ Q) : wp_X12_brings x1 x2 x3 σ Q' := by
  unfold wp_X12_brings at h ⊢
  refine ⟨h.1, ?_⟩; replace h := h.2
  refine mf_X12_rowOf (fun r1 σ2 h gσ2 => ?_) Fr.rf h
  have fσ2 : Fr S_X12_brings σ0 σ2 := f0.tr gσ2 (mkS_sub (by decide) (by decide))
  intro v3 ev3; replace h := h v3 ev3
  refine ⟨h.1, ?_⟩; replace h := h.2
  refine ⟨fun hc => ?_, fun hc => ?_⟩
  · replace h := h.1 hc
    intro v4 ev4; replace h := h v4 ev4
    exact mf_X12_brings_l125 hq bigN _ _ _ _ _ _ _ fσ2 h
  · replace h := h.2 hc
    refine ⟨h.1, ?_⟩; replace h := h.2
    refine mf_X12_fits (fun r5 σ6 h gσ6 => ?_) Fr.rf h
    have fσ6 : Fr S_X12_brings σ0 σ6 := fσ2.tr gσ6 (mkS_sub (by decide) (by decide))
    refine ⟨fun hc => ?_, fun hc => ?_⟩
    · replace h := h.1 hc
      refine ⟨h.1, ?_⟩; replace h := h.2
      refine ⟨fun hc => ?_, fun hc => ?_⟩
      · replace h := h.1 hc
        refine ⟨h.1, ?_⟩; replace h := h.2
        refine mf_X12_rowOf (fun r7 σ8 h gσ8 => ?_) Fr.rf h
        have fσ8 : Fr S_X12_brings σ0 σ8 := fσ6.tr gσ8 (mkS_sub (by decide) (by decide))
        exact mf_X12_brings_b68 hq fσ8 h
      · replace h := h.2 hc
        exact mf_X12_brings_b68 hq fσ6 h
    · replace h := h.2 hc
      exact hq _ _ h fσ6
set_option maxHeartbeats 1000000 in
theorem mf_X12_power_l5 {Q Q' : Int → St → Prop} {σ0 : St} (hq : ∀ (r : Int) (σ1 : St), Q r σ1 → Fr S_X12_power σ0 σ1 → Q' r σ1) : ∀ (n : Nat) (x0 : Int) (x2 : Int) (x3 : Int) (x5 : Int) (σ : St), Fr S_X12_power σ0 σ → wp_X12_power_l5 Q n x0 x2 x3 x5 σ → wp_X12_power_l5 Q' n x0 x2 x3 x5 σ := by
  intro n
  induction n with
  | zero => intro _ _ _ _ _ _ h; exact h.elim
  | succ n ih =>
    intro x0 x2 x3 x5 σ f0 h
    unfold wp_X12_power_l5 at h ⊢
    refine ⟨fun hc => ?_, fun hc => ?_⟩
    · replace h := h.1 hc
      exact hq _ _ h f0
    · replace h := h.2 hc
      intro v1 ev1; replace h := h v1 ev1
      intro v2 ev2; replace h := h v2 ev2
      exact ih _ _ _ _ _ f0 h
set_option maxHeartbeats 1000000 in
theorem mf_X12_power {Q Q' : Int → St → Prop} {σ0 : St} (hq : ∀ (r : Int) (σ1 : St), Q r σ1 → Fr S_X12_power σ0 σ1 → Q' r σ1) {x0 x2 : Int} {σ : St} (f0 : Fr S_X12_power σ0 σ) (h : wp_X12_power x0 x2 σ Q) : wp_X12_power x0 x2 σ Q' := by
  unfold wp_X12_power at h ⊢
  exact mf_X12_power_l5 hq bigN _ _ _ _ _ f0 h
set_option maxHeartbeats 1000000 in
theorem mf_X12_clears_b276 {Q Q' : Int → St → Prop} {σ0 : St} (hq : ∀ (r : Int) (σ1 : St), Q r σ1 → Fr S_X12_clears σ0 σ1 → Q' r σ1) {K171 K171' : Int → Int → St → Prop} (hK171 : ∀ (x1 : Int) (x5 : Int) (σ : St), Fr S_X12_clears σ0 σ → K171 x1 x5 σ → K171' x1 x5 σ) {x1 x5 : Int} {σ : St} (f0 : Fr S_X12_clears σ0 σ) (h : wp_X12_clears_b276 Q K171 x1 x5 σ) : wp_X12_clears_b276 Q' K171' x1 x5 σ := by
  unfold wp_X12_clears_b276 at h ⊢
  intro v11 ev11; replace h := h v11 ev11
  exact hK171 _ _ _ f0 h
set_option maxHeartbeats 1000000 in
theorem mf_X12_clears_l213 {Q Q' : Int → St → Prop} {σ0 : St} (hq : ∀ (r : Int) (σ1 : St), Q r σ1 → Fr S_X12_clears σ0 σ1 → Q' r σ1) {K171 K171' : Int → Int → St → Prop} (hK171 : ∀ (x1 : Int) (x5 : Int) (σ : St), Fr S_X12_clears σ0 σ → K171 x1 x5 σ → K171' x1 x5 σ) : ∀ (n : Nat) (x1 : Int) (x5 : Int) (x6 : Int) (x8 : Int) (σ : St), Fr S_X12_clears σ0 σ → wp_X12_clears_l213 Q K171 n x1 x5 x6 x8 σ → wp_X12_clears_l213 Q' K171' n x1 x5 x6 x8 σ := by
  intro n
  induction n with
  | zero => intro _ _ _ _ _ _ h; exact h.elim
  | succ n ih =>
    intro x1 x5 x6 x8 σ f0 h
    unfold wp_X12_clears_l213 at h ⊢
    refine ⟨fun hc => ?_, fun hc => ?_⟩
    · replace h := h.1 hc
      exact mf_X12_clears_b276 hq hK171 f0 h
    · replace h := h.2 hc
      refine ⟨h.1, ?_⟩; replace h := h.2
      refine ⟨h.1, ?_⟩; replace h := h.2
      refine ⟨h.1, fun σ12 eσ12 => ?_⟩; replace h := h.2 σ12 eσ12; have fσ12 : Fr S_X12_clears σ0 σ12 := by rw [eσ12]; exact f0.up rfl
      intro v13 ev13; replace h := h v13 ev13
      exact ih _ _ _ _ _ fσ12 h
set_option maxHeartbeats 1000000 in
theorem mf_X12_clears_l171 {Q Q' : Int → St → Prop} {σ0 : St} (hq : ∀ (r : Int) (σ1 : St), Q r σ1 → Fr S_X12_clears σ0 σ1 → Q' r σ1) : ∀ (n : Nat) (x1 : Int) (x5 : Int) (σ : St), Fr S_X12_clears σ0 σ → wp_X12_clears_l171 Q n x1 x5 σ → wp_X12_clears_l171 Q' n x1 x5 σ := by
  intro n
  induction n with
  | zero => intro _ _ _ _ h; exact h.elim
  | succ n ih =>
    intro x1 x5 σ f0 h
    unfold wp_X12_clears_l171 at h ⊢
    refine ⟨fun hc => ?_, fun hc => ?_⟩
    · replace h := h.1 hc
      exact hq _ _ h f0
    · replace h := h.2 hc
      refine ⟨h.1, ?_⟩; replace h := h.2
      intro v10 ev10; replace h := h v10 ev10
      refine ⟨fun hc => ?_, fun hc => ?_⟩
      · replace h := h.1 hc
        exact mf_X12_clears_b276 hq ih f0 h
      · replace h := h.2 hc
        refine ⟨fun hc => ?_, fun hc => ?_⟩
        · replace h := h.1 hc
          exact mf_X12_clears_l213 hq ih bigN _ _ _ _ _ f0 h
        · replace h := h.2 hc
          exact mf_X12_clears_b276 hq ih f0 h
set_option maxHeartbeats 1000000 in
theorem mf_X12_clears_l125 {Q Q' : Int → St → Prop} {σ0 : St} (hq : ∀ (r : Int) (σ1 : St), Q r σ1 → Fr S_X12_clears σ0 σ1 → Q' r σ1) : ∀ (n : Nat) (x1 : Int) (x3 : Int) (x5 : Int) (σ : St), Fr S_X12_clears σ0 σ → wp_X12_clears_l125 Q n x1 x3 x5 σ → wp_X12_clears_l125 Q' n x1 x3 x5 σ := by
  intro n
  induction n with
  | zero => intro _ _ _ _ _ h; exact h.elim
  | succ n ih =>
    intro x1 x3 x5 σ f0 h
    unfold wp_X12_clears_l125 at h ⊢
    refine ⟨fun hc => ?_, fun hc => ?_⟩
    · replace h := h.1 hc
      exact mf_X12_clears_l171 hq bigN _ _ _ f0 h
    · replace h := h.2 hc
      refine ⟨h.1, ?_⟩; replace h := h.2
      refine ⟨h.1, fun σ8 eσ8 => ?_⟩; replace h := h.2 σ8 eσ8; have fσ8 : Fr S_X12_clears σ0 σ8 := by rw [eσ8]; exact f0.up rfl
      intro v9 ev9; replace h := h v9 ev9
      exact ih _ _ _ _ fσ8 h
set_option maxHeartbeats 1000000 in
theorem mf_X12_clears_l44 {Q Q' : Int → St → Prop} {σ0 : St} (hq : ∀ (r : Int) (σ1 : St), Q r σ1 → Fr S_X12_clears σ0 σ1 → Q' r σ1) : ∀ (n : Nat) (x1 : Int) (x2 : Int) (x3 : Int) (σ : St), Fr S_X12_clears σ0 σ → wp_X12_clears_l44 Q n x1 x2 x3 σ → wp_X12_clears_l44 Q' n x1 x2 x3 σ := by
  intro n
  induction n with
  | zero => intro _ _ _ _ _ h; exact h.elim
  | succ n ih =>
    intro x1 x2 x3 σ f0 h
    unfold wp_X12_clears_l44 at h ⊢
    refine ⟨fun hc => ?_, fun hc => ?_⟩
    · replace h := h.1 hc
      refine ⟨h.1, ?_⟩; replace h := h.2
      refine mf_X12_power (fun r2 σ3 h gσ3 => ?_) Fr.rf h
      have fσ3 : Fr S_X12_clears σ0 σ3 := f0.tr gσ3 (mkS_sub (by decide) (by decide))
      exact mf_X12_clears_l125 hq bigN _ _ _ _ fσ3 h
    · replace h := h.2 hc
      refine ⟨h.1, ?_⟩; replace h := h.2
      intro v4 ev4; replace h := h v4 ev4
      refine ⟨h.1, ?_⟩; replace h := h.2
      refine ⟨h.1, fun σ5 eσ5 => ?_⟩; replace h := h.2 σ5 eσ5; have fσ5 : Fr S_X12_clears σ0 σ5 := by rw [eσ5]; exact f0.up rfl
      refine ⟨h.1, fun σ6 eσ6 => ?_⟩; replace h := h.2 σ6 eσ6; have fσ6 : Fr S_X12_clears σ0 σ6 := by rw [eσ6]; exact fσ5.up rfl
      intro v7 ev7; replace h := h v7 ev7
      exact ih _ _ _ _ fσ6 h
set_option maxHeartbeats 1000000 in
theorem mf_X12_clears_b32 {Q Q' : Int → St → Prop} {σ0 : St} (hq : ∀ (r : Int) (σ1 : St), Q r σ1 → Fr S_X12_clears σ0 σ1 → Q' r σ1) {x1 x2 : Int} {σ : St} (f0 : Fr S_X12_clears σ0 σ) (h : wp_X12_clears_b32 Q x1 x2 σ) : wp_X12_clears_b32 Q' x1 x2 σ := by
  unfold wp_X12_clears_b32 at h ⊢
  refine ⟨fun hc => ?_, fun hc => ?_⟩
  · replace h := h.1 hc
    exact mf_X12_clears_l44 hq bigN _ _ _ _ f0 h
  · replace h := h.2 hc
    exact hq _ _ h f0
set_option maxHeartbeats 1000000 in
theorem mf_X12_clears_l2 {Q Q' : Int → St → Prop} {σ0 : St} (hq : ∀ (r : Int) (σ1 : St), Q r σ1 → Fr S_X12_clears σ0 σ1 → Q' r σ1) : ∀ (n : Nat) (x1 : Int) (x2 : Int) (σ : St), Fr S_X12_clears σ0 σ → wp_X12_clears_l2 Q n x1 x2 σ → wp_X12_clears_l2 Q' n x1 x2 σ := by
  intro n
  induction n with
  | zero => intro _ _ _ _ h; exact h.elim
  | succ n ih =>
    intro x1 x2 σ f0 h
    unfold wp_X12_clears_l2 at h ⊢
    refine ⟨fun hc => ?_, fun hc => ?_⟩
    · replace h := h.1 hc
      exact mf_X12_clears_b32 hq f0 h
    · replace h := h.2 hc
      refine ⟨h.1, ?_⟩; replace h := h.2
      refine ⟨fun hc => ?_, fun hc => ?_⟩
      · replace h := h.1 hc
        exact mf_X12_clears_b32 hq f0 h
      · replace h := h.2 hc
        intro v1 ev1; replace h := h v1 ev1
        exact ih _ _ _ f0 h
set_option maxHeartbeats 1000000 in
theorem mf_X12_clears {Q Q' : Int → St → Prop} {σ0 : St} (hq : ∀ (r : Int) (σ1 : St), Q r σ1 → Fr S_X12_clears σ0 σ1 → Q' r σ1) {x1 : Int} {σ : St} (f0 : Fr S_X12_clears σ0 σ) (h : wp_X12_clears x1 σ Q) : wp_X12_clears x1 σ Q' := by
  unfold wp_X12_clears at h ⊢
  exact mf_X12_clears_l2 hq bigN _ _ _ f0 h
set_option maxHeartbeats 1000000 in
theorem mf_X12_laysSums_b46 {Q Q' : Int → St → Prop} {σ0 : St} (hq : ∀ (r : Int) (σ1 : St), Q r σ1 → Fr S_X12_laysSums σ0 σ1 → Q' r σ1) {K7 K7' : Int → Int → Int → St → Prop} (hK7 : ∀ (x1 : Int) (x2 : Int) (x3 : Int) (σ : St), Fr S_X12_laysSums σ0 σ → K7 x1 x2 x3 σ → K7' x1 x2 x3 σ) {x1 x2 x3 : Int} {σ : St} (f0 : Fr S_X12_laysSums σ0 σ) (h : wp_X12_laysSums_b46 Q K7 x1 x2 x3 σ) : wp_X12_laysSums_b46 Q' K7' x1 x2 x3 σ := by
  unfold wp_X12_laysSums_b46 at h ⊢
  intro v8 ev8; replace h := h v8 ev8
  exact hK7 _ _ _ _ f0 h
set_option maxHeartbeats 1000000 in
theorem mf_X12_laysSums_b160 {Q Q' : Int → St → Prop} {σ0 : St} (hq : ∀ (r : Int) (σ1 : St), Q r σ1 → Fr S_X12_laysSums σ0 σ1 → Q' r σ1) {K105 K105' : Int → Int → Int → Int → St → Prop} (hK105 : ∀ (x1 : Int) (x2 : Int) (x3 : Int) (x4 : Int) (σ : St), Fr S_X12_laysSums σ0 σ → K105 x1 x2 x3 x4 σ → K105' x1 x2 x3 x4 σ) {x1 x2 x3 x4 : Int} {σ : St} (f0 : Fr S_X12_laysSums σ0 σ) (h : wp_X12_laysSums_b160 Q K105 x1 x2 x3 x4 σ) : wp_X12_laysSums_b160 Q' K105' x1 x2 x3 x4 σ := by
  unfold wp_X12_laysSums_b160 at h ⊢
  intro v19 ev19; replace h := h v19 ev19
  exact hK105 _ _ _ _ _ f0 h
set_option maxHeartbeats 1000000 in
theorem mf_X12_laysSums_b159 {Q Q' : Int → St → Prop} {σ0 : St} (hq : ∀ (r : Int) (σ1 : St), Q r σ1 → Fr S_X12_laysSums σ0 σ1 → Q' r σ1) {K105 K105' : Int → Int → Int → Int → St → Prop} (hK105 : ∀ (x1 : Int) (x2 : Int) (x3 : Int) (x4 : Int) (σ : St), Fr S_X12_laysSums σ0 σ → K105 x1 x2 x3 x4 σ → K105' x1 x2 x3 x4 σ) {x1 x2 x4 s0 : Int} {σ : St} (f0 : Fr S_X12_laysSums σ0 σ) (h : wp_X12_laysSums_b159 Q K105 x1 x2 x4 s0 σ) : wp_X12_laysSums_b159 Q' K105' x1 x2 x4 s0 σ := by
  unfold wp_X12_laysSums_b159 at h ⊢
  exact mf_X12_laysSums_b160 hq hK105 f0 h
set_option maxHeartbeats 1000000 in
theorem mf_X12_laysSums_b158 {Q Q' : Int → St → Prop} {σ0 : St} (hq : ∀ (r : Int) (σ1 : St), Q r σ1 → Fr S_X12_laysSums σ0 σ1 → Q' r σ1) {K105 K105' : Int → Int → Int → Int → St → Prop} (hK105 : ∀ (x1 : Int) (x2 : Int) (x3 : Int) (x4 : Int) (σ : St), Fr S_X12_laysSums σ0 σ → K105 x1 x2 x3 x4 σ → K105' x1 x2 x3 x4 σ) {x1 x2 x4 : Int} {σ : St} (f0 : Fr S_X12_laysSums σ0 σ) (h : wp_X12_laysSums_b158 Q K105 x1 x2 x4 σ) : wp_X12_laysSums_b158 Q' K105' x1 x2 x4 σ := by
  unfold wp_X12_laysSums_b158 at h ⊢
  exact mf_X12_laysSums_b159 hq hK105 f0 h
set_option maxHeartbeats 1000000 in
theorem mf_X12_laysSums_l247 {Q Q' : Int → St → Prop} {σ0 : St} (hq : ∀ (r : Int) (σ1 : St), Q r σ1 → Fr S_X12_laysSums σ0 σ1 → Q' r σ1) : ∀ (n : Nat) (x1 : Int) (x2 : Int) (x4 : Int) (σ : St), Fr S_X12_laysSums σ0 σ → wp_X12_laysSums_l247 Q n x1 x2 x4 σ → wp_X12_laysSums_l247 Q' n x1 x2 x4 σ := by
  intro n
  induction n with
  | zero => intro _ _ _ _ _ h; exact h.elim
  | succ n ih =>
    intro x1 x2 x4 σ f0 h
    unfold wp_X12_laysSums_l247 at h ⊢
    refine ⟨fun hc => ?_, fun hc => ?_⟩
    · replace h := h.1 hc
      exact hq _ _ h f0
    · replace h := h.2 hc
      refine ⟨h.1, ?_⟩; replace h := h.2
      refine mf_X12_item (fun r26 σ27 h gσ27 => ?_) Fr.rf h
      have fσ27 : Fr S_X12_laysSums σ0 σ27 := f0.tr gσ27 (mkS_sub (by decide) (by decide))
      refine ⟨h.1, ?_⟩; replace h := h.2
      refine ⟨h.1, fun σ28 eσ28 => ?_⟩; replace h := h.2 σ28 eσ28; have fσ28 : Fr S_X12_laysSums σ0 σ28 := by rw [eσ28]; exact fσ27.up rfl
      intro v29 ev29; replace h := h v29 ev29
      exact ih _ _ _ _ fσ28 h
set_option maxHeartbeats 1000000 in
theorem mf_X12_laysSums_b243 {Q Q' : Int → St → Prop} {σ0 : St} (hq : ∀ (r : Int) (σ1 : St), Q r σ1 → Fr S_X12_laysSums σ0 σ1 → Q' r σ1) {x1 x2 s0 s1 : Int} {σ : St} (f0 : Fr S_X12_laysSums σ0 σ) (h : wp_X12_laysSums_b243 Q x1 x2 s0 s1 σ) : wp_X12_laysSums_b243 Q' x1 x2 s0 s1 σ := by
  unfold wp_X12_laysSums_b243 at h ⊢
  refine ⟨h.1, fun σ25 eσ25 => ?_⟩; replace h := h.2 σ25 eσ25; have fσ25 : Fr S_X12_laysSums σ0 σ25 := by rw [eσ25]; exact f0.up rfl
  exact mf_X12_laysSums_l247 hq bigN _ _ _ _ fσ25 h
set_option maxHeartbeats 1000000 in
theorem mf_X12_laysSums_b225 {Q Q' : Int → St → Prop} {σ0 : St} (hq : ∀ (r : Int) (σ1 : St), Q r σ1 → Fr S_X12_laysSums σ0 σ1 → Q' r σ1) {x1 x2 x3 : Int} {σ : St} (f0 : Fr S_X12_laysSums σ0 σ) (h : wp_X12_laysSums_b225 Q x1 x2 x3 σ) : wp_X12_laysSums_b225 Q' x1 x2 x3 σ := by
  unfold wp_X12_laysSums_b225 at h ⊢
  refine mf_X12_span (fun r23 σ24 h gσ24 => ?_) Fr.rf h
  have fσ24 : Fr S_X12_laysSums σ0 σ24 := f0.tr gσ24 (mkS_sub (by decide) (by decide))
  refine ⟨fun hc => ?_, fun hc => ?_⟩
  · replace h := h.1 hc
    exact mf_X12_laysSums_b243 hq fσ24 h
  · replace h := h.2 hc
    exact mf_X12_laysSums_b243 hq fσ24 h
set_option maxHeartbeats 1000000 in
theorem mf_X12_laysSums_l199 {Q Q' : Int → St → Prop} {σ0 : St} (hq : ∀ (r : Int) (σ1 : St), Q r σ1 → Fr S_X12_laysSums σ0 σ1 → Q' r σ1) : ∀ (n : Nat) (x1 : Int) (x2 : Int) (x3 : Int) (x4 : Int) (σ : St), Fr S_X12_laysSums σ0 σ → wp_X12_laysSums_l199 Q n x1 x2 x3 x4 σ → wp_X12_laysSums_l199 Q' n x1 x2 x3 x4 σ := by
  intro n
  induction n with
  | zero => intro _ _ _ _ _ _ h; exact h.elim
  | succ n ih =>
    intro x1 x2 x3 x4 σ f0 h
    unfold wp_X12_laysSums_l199 at h ⊢
    refine ⟨fun hc => ?_, fun hc => ?_⟩
    · replace h := h.1 hc
      exact mf_X12_laysSums_b225 hq f0 h
    · replace h := h.2 hc
      refine ⟨fun hc => ?_, fun hc => ?_⟩
      · replace h := h.1 hc
        exact mf_X12_laysSums_b225 hq f0 h
      · replace h := h.2 hc
        refine mf_X12_clears (fun r20 σ21 h gσ21 => ?_) Fr.rf h
        have fσ21 : Fr S_X12_laysSums σ0 σ21 := f0.tr gσ21 (mkS_sub (by decide) (by decide))
        intro v22 ev22; replace h := h v22 ev22
        exact ih _ _ _ _ _ fσ21 h
set_option maxHeartbeats 1000000 in
theorem mf_X12_laysSums_l169 {Q Q' : Int → St → Prop} {σ0 : St} (hq : ∀ (r : Int) (σ1 : St), Q r σ1 → Fr S_X12_laysSums σ0 σ1 → Q' r σ1) : ∀ (n : Nat) (x1 : Int) (x2 : Int) (x3 : Int) (x4 : Int) (σ : St), Fr S_X12_laysSums σ0 σ → wp_X12_laysSums_l169 Q n x1 x2 x3 x4 σ → wp_X12_laysSums_l169 Q' n x1 x2 x3 x4 σ := by
  intro n
  induction n with
  | zero => intro _ _ _ _ _ _ h; exact h.elim
  | succ n ih =>
    intro x1 x2 x3 x4 σ f0 h
    unfold wp_X12_laysSums_l169 at h ⊢
    refine ⟨fun hc => ?_, fun hc => ?_⟩
    · replace h := h.1 hc
      exact mf_X12_laysSums_l199 hq bigN _ _ _ _ _ f0 h
    · replace h := h.2 hc
      refine ⟨h.1, ?_⟩; replace h := h.2
      refine ⟨h.1, fun σ17 eσ17 => ?_⟩; replace h := h.2 σ17 eσ17; have fσ17 : Fr S_X12_laysSums σ0 σ17 := by rw [eσ17]; exact f0.up rfl
      intro v18 ev18; replace h := h v18 ev18
      exact ih _ _ _ _ _ fσ17 h
set_option maxHeartbeats 1000000 in
theorem mf_X12_laysSums_l105 {Q Q' : Int → St → Prop} {σ0 : St} (hq : ∀ (r : Int) (σ1 : St), Q r σ1 → Fr S_X12_laysSums σ0 σ1 → Q' r σ1) : ∀ (n : Nat) (x1 : Int) (x2 : Int) (x3 : Int) (x4 : Int) (σ : St), Fr S_X12_laysSums σ0 σ → wp_X12_laysSums_l105 Q n x1 x2 x3 x4 σ → wp_X12_laysSums_l105 Q' n x1 x2 x3 x4 σ := by
  intro n
  induction n with
  | zero => intro _ _ _ _ _ _ h; exact h.elim
  | succ n ih =>
    intro x1 x2 x3 x4 σ f0 h
    unfold wp_X12_laysSums_l105 at h ⊢
    refine ⟨fun hc => ?_, fun hc => ?_⟩
    · replace h := h.1 hc
      exact mf_X12_laysSums_l169 hq bigN _ _ _ _ _ f0 h
    · replace h := h.2 hc
      refine mf_X12_isIn (fun r11 σ12 h gσ12 => ?_) Fr.rf h
      have fσ12 : Fr S_X12_laysSums σ0 σ12 := f0.tr gσ12 (mkS_sub (by decide) (by decide))
      refine ⟨fun hc => ?_, fun hc => ?_⟩
      · replace h := h.1 hc
        exact mf_X12_laysSums_b160 hq ih fσ12 h
      · replace h := h.2 hc
        refine ⟨h.1, ?_⟩; replace h := h.2
        refine mf_X12_has (fun r13 σ14 h gσ14 => ?_) Fr.rf h
        have fσ14 : Fr S_X12_laysSums σ0 σ14 := fσ12.tr gσ14 (mkS_sub (by decide) (by decide))
        refine ⟨fun hc => ?_, fun hc => ?_⟩
        · replace h := h.1 hc
          exact mf_X12_laysSums_b160 hq ih fσ14 h
        · replace h := h.2 hc
          refine mf_X12_brings (fun r15 σ16 h gσ16 => ?_) Fr.rf h
          have fσ16 : Fr S_X12_laysSums σ0 σ16 := fσ14.tr gσ16 (mkS_sub (by decide) (by decide))
          refine ⟨fun hc => ?_, fun hc => ?_⟩
          · replace h := h.1 hc
            exact mf_X12_laysSums_b158 hq ih fσ16 h
          · replace h := h.2 hc
            refine ⟨fun hc => ?_, fun hc => ?_⟩
            · replace h := h.1 hc
              exact mf_X12_laysSums_b158 hq ih fσ16 h
            · replace h := h.2 hc
              exact mf_X12_laysSums_b159 hq ih fσ16 h
set_option maxHeartbeats 1000000 in
theorem mf_X12_laysSums_l76 {Q Q' : Int → St → Prop} {σ0 : St} (hq : ∀ (r : Int) (σ1 : St), Q r σ1 → Fr S_X12_laysSums σ0 σ1 → Q' r σ1) : ∀ (n : Nat) (x1 : Int) (x2 : Int) (x3 : Int) (σ : St), Fr S_X12_laysSums σ0 σ → wp_X12_laysSums_l76 Q n x1 x2 x3 σ → wp_X12_laysSums_l76 Q' n x1 x2 x3 σ := by
  intro n
  induction n with
  | zero => intro _ _ _ _ _ h; exact h.elim
  | succ n ih =>
    intro x1 x2 x3 σ f0 h
    unfold wp_X12_laysSums_l76 at h ⊢
    refine ⟨fun hc => ?_, fun hc => ?_⟩
    · replace h := h.1 hc
      exact mf_X12_laysSums_l105 hq bigN _ _ _ _ _ f0 h
    · replace h := h.2 hc
      refine ⟨h.1, fun σ9 eσ9 => ?_⟩; replace h := h.2 σ9 eσ9; have fσ9 : Fr S_X12_laysSums σ0 σ9 := by rw [eσ9]; exact f0.up rfl
      intro v10 ev10; replace h := h v10 ev10
      exact ih _ _ _ _ fσ9 h
set_option maxHeartbeats 1000000 in
theorem mf_X12_laysSums_l54 {Q Q' : Int → St → Prop} {σ0 : St} (hq : ∀ (r : Int) (σ1 : St), Q r σ1 → Fr S_X12_laysSums σ0 σ1 → Q' r σ1) : ∀ (n : Nat) (x1 : Int) (x2 : Int) (x3 : Int) (σ : St), Fr S_X12_laysSums σ0 σ → wp_X12_laysSums_l54 Q n x1 x2 x3 σ → wp_X12_laysSums_l54 Q' n x1 x2 x3 σ := by
  intro n
  induction n with
  | zero => intro _ _ _ _ _ h; exact h.elim
  | succ n ih =>
    intro x1 x2 x3 σ f0 h
    unfold wp_X12_laysSums_l54 at h ⊢
    refine ⟨fun hc => ?_, fun hc => ?_⟩
    · replace h := h.1 hc
      exact mf_X12_laysSums_l76 hq bigN _ _ _ _ f0 h
    · replace h := h.2 hc
      refine ⟨h.1, fun σ6 eσ6 => ?_⟩; replace h := h.2 σ6 eσ6; have fσ6 : Fr S_X12_laysSums σ0 σ6 := by rw [eσ6]; exact f0.up rfl
      intro v7 ev7; replace h := h v7 ev7
      exact ih _ _ _ _ fσ6 h
set_option maxHeartbeats 1000000 in
theorem mf_X12_laysSums_l7 {Q Q' : Int → St → Prop} {σ0 : St} (hq : ∀ (r : Int) (σ1 : St), Q r σ1 → Fr S_X12_laysSums σ0 σ1 → Q' r σ1) : ∀ (n : Nat) (x1 : Int) (x2 : Int) (x3 : Int) (σ : St), Fr S_X12_laysSums σ0 σ → wp_X12_laysSums_l7 Q n x1 x2 x3 σ → wp_X12_laysSums_l7 Q' n x1 x2 x3 σ := by
  intro n
  induction n with
  | zero => intro _ _ _ _ _ h; exact h.elim
  | succ n ih =>
    intro x1 x2 x3 σ f0 h
    unfold wp_X12_laysSums_l7 at h ⊢
    refine ⟨fun hc => ?_, fun hc => ?_⟩
    · replace h := h.1 hc
      exact mf_X12_laysSums_l54 hq bigN _ _ _ _ f0 h
    · replace h := h.2 hc
      refine mf_X12_has (fun r2 σ3 h gσ3 => ?_) Fr.rf h
      have fσ3 : Fr S_X12_laysSums σ0 σ3 := f0.tr gσ3 (mkS_sub (by decide) (by decide))
      refine ⟨fun hc => ?_, fun hc => ?_⟩
      · replace h := h.1 hc
        refine ⟨h.1, fun σ4 eσ4 => ?_⟩; replace h := h.2 σ4 eσ4; have fσ4 : Fr S_X12_laysSums σ0 σ4 := by rw [eσ4]; exact fσ3.up rfl
        intro σ5 eσ5; replace h := h σ5 eσ5; have fσ5 : Fr S_X12_laysSums σ0 σ5 := by rw [eσ5]; exact fσ4.up rfl
        exact mf_X12_laysSums_b46 hq ih fσ5 h
      · replace h := h.2 hc
        exact mf_X12_laysSums_b46 hq ih fσ3 h
set_option maxHeartbeats 1000000 in
theorem mf_X12_laysSums {Q Q' : Int → St → Prop} {σ0 : St} (hq : ∀ (r : Int) (σ1 : St), Q r σ1 → Fr S_X12_laysSums σ0 σ1 → Q' r σ1) {x1 x2 : Int} {σ : St} (f0 : Fr S_X12_laysSums σ0 σ) (h : wp_X12_laysSums x1 x2 σ Q) : wp_X12_laysSums x1 x2 σ Q' := by
  unfold wp_X12_laysSums at h ⊢
  intro σ1 eσ1; replace h := h σ1 eσ1; have fσ1 : Fr S_X12_laysSums σ0 σ1 := by rw [eσ1]; exact f0.up rfl
  exact mf_X12_laysSums_l7 hq bigN _ _ _ _ fσ1 h
set_option maxHeartbeats 1000000 in
theorem mf_X12_sum_l44 {Q Q' : Int → St → Prop} {σ0 : St} (hq : ∀ (r : Int) (σ1 : St), Q r σ1 → Fr S_X12_sum σ0 σ1 → Q' r σ1) {K32 K32' : Int → Int → Int → Int → St → Prop} (hK32 : ∀ (x1 : Int) (x2 : Int) (x3 : Int) (x4 : Int) (σ : St), Fr S_X12_sum σ0 σ → K32 x1 x2 x3 x4 σ → K32' x1 x2 x3 x4 σ) : ∀ (n : Nat) (x1 : Int) (x2 : Int) (x3 : Int) (x4 : Int) (x5 : Int) (σ : St), Fr S_X12_sum σ0 σ → wp_X12_sum_l44 Q K32 n x1 x2 x3 x4 x5 σ → wp_X12_sum_l44 Q' K32' n x1 x2 x3 x4 x5 σ := by
  intro n
  induction n with
  | zero => intro _ _ _ _ _ _ _ h; exact h.elim
  | succ n ih =>
    intro x1 x2 x3 x4 x5 σ f0 h
    unfold wp_X12_sum_l44 at h ⊢
    refine ⟨fun hc => ?_, fun hc => ?_⟩
    · replace h := h.1 hc
      intro v11 ev11; replace h := h v11 ev11
      exact hK32 _ _ _ _ _ f0 h
    · replace h := h.2 hc
      refine mf_X12_laysSums (fun r12 σ13 h gσ13 => ?_) Fr.rf h
      have fσ13 : Fr S_X12_sum σ0 σ13 := f0.tr gσ13 (mkS_sub (by decide) (by decide))
      intro v14 ev14; replace h := h v14 ev14
      exact ih _ _ _ _ _ _ fσ13 h
set_option maxHeartbeats 1000000 in
theorem mf_X12_sum_l32 {Q Q' : Int → St → Prop} {σ0 : St} (hq : ∀ (r : Int) (σ1 : St), Q r σ1 → Fr S_X12_sum σ0 σ1 → Q' r σ1) : ∀ (n : Nat) (x1 : Int) (x2 : Int) (x3 : Int) (x4 : Int) (σ : St), Fr S_X12_sum σ0 σ → wp_X12_sum_l32 Q n x1 x2 x3 x4 σ → wp_X12_sum_l32 Q' n x1 x2 x3 x4 σ := by
  intro n
  induction n with
  | zero => intro _ _ _ _ _ _ h; exact h.elim
  | succ n ih =>
    intro x1 x2 x3 x4 σ f0 h
    unfold wp_X12_sum_l32 at h ⊢
    refine ⟨fun hc => ?_, fun hc => ?_⟩
    · replace h := h.1 hc
      refine mf_X12_span (fun r7 σ8 h gσ8 => ?_) Fr.rf h
      have fσ8 : Fr S_X12_sum σ0 σ8 := f0.tr gσ8 (mkS_sub (by decide) (by decide))
      refine ⟨h.1, ?_⟩; replace h := h.2
      refine ⟨fun hc => ?_, fun hc => ?_⟩
      · replace h := h.1 hc
        refine mf_X12_item (fun r9 σ10 h gσ10 => ?_) Fr.rf h
        have fσ10 : Fr S_X12_sum σ0 σ10 := fσ8.tr gσ10 (mkS_sub (by decide) (by decide))
        refine ⟨h.1, ?_⟩; replace h := h.2
        exact hq _ _ h fσ10
      · replace h := h.2 hc
        exact hq _ _ h fσ8
    · replace h := h.2 hc
      exact mf_X12_sum_l44 hq ih bigN _ _ _ _ _ _ f0 h
set_option maxHeartbeats 1000000 in
theorem mf_X12_sum {Q Q' : Int → St → Prop} {σ0 : St} (hq : ∀ (r : Int) (σ1 : St), Q r σ1 → Fr S_X12_sum σ0 σ1 → Q' r σ1) {x1 x2 x3 : Int} {σ : St} (f0 : Fr S_X12_sum σ0 σ) (h : wp_X12_sum x1 x2 x3 σ Q) : wp_X12_sum x1 x2 x3 σ Q' := by
  unfold wp_X12_sum at h ⊢
  refine mf_X12_isItem (fun r1 σ2 h gσ2 => ?_) Fr.rf h
  have fσ2 : Fr S_X12_sum σ0 σ2 := f0.tr gσ2 (mkS_sub (by decide) (by decide))
  refine ⟨fun hc => ?_, fun hc => ?_⟩
  · replace h := h.1 hc
    refine mf_X12_looks (fun r3 σ4 h gσ4 => ?_) Fr.rf h
    have fσ4 : Fr S_X12_sum σ0 σ4 := fσ2.tr gσ4 (mkS_sub (by decide) (by decide))
    refine mf_X12_has (fun r5 σ6 h gσ6 => ?_) Fr.rf h
    have fσ6 : Fr S_X12_sum σ0 σ6 := fσ4.tr gσ6 (mkS_sub (by decide) (by decide))
    refine ⟨fun hc => ?_, fun hc => ?_⟩
    · replace h := h.1 hc
      exact mf_X12_sum_l32 hq bigN _ _ _ _ _ fσ6 h
    · replace h := h.2 hc
      exact hq _ _ h fσ6
  · replace h := h.2 hc
    exact hq _ _ h fσ2
set_option maxHeartbeats 1000000 in
theorem mf_X12_isLetterAt_b26 {Q Q' : Int → St → Prop} {σ0 : St} (hq : ∀ (r : Int) (σ1 : St), Q r σ1 → Fr S_X12_isLetterAt σ0 σ1 → Q' r σ1) {σ : St} (f0 : Fr S_X12_isLetterAt σ0 σ) (h : wp_X12_isLetterAt_b26 Q  σ) : wp_X12_isLetterAt_b26 Q'  σ := by
  unfold wp_X12_isLetterAt_b26 at h ⊢
  exact hq _ _ h f0
set_option maxHeartbeats 1000000 in
theorem mf_X12_isLetterAt_b30 {Q Q' : Int → St → Prop} {σ0 : St} (hq : ∀ (r : Int) (σ1 : St), Q r σ1 → Fr S_X12_isLetterAt σ0 σ1 → Q' r σ1) {σ : St} (f0 : Fr S_X12_isLetterAt σ0 σ) (h : wp_X12_isLetterAt_b30 Q  σ) : wp_X12_isLetterAt_b30 Q'  σ := by
  unfold wp_X12_isLetterAt_b30 at h ⊢
  exact hq _ _ h f0
set_option maxHeartbeats 1000000 in
theorem mf_X12_isLetterAt {Q Q' : Int → St → Prop} {σ0 : St} (hq : ∀ (r : Int) (σ1 : St), Q r σ1 → Fr S_X12_isLetterAt σ0 σ1 → Q' r σ1) {x1 x2 x3 : Int} {σ : St} (f0 : Fr S_X12_isLetterAt σ0 σ) (h : wp_X12_isLetterAt x1 x2 x3 σ Q) : wp_X12_isLetterAt x1 x2 x3 σ Q' := by
  unfold wp_X12_isLetterAt at h ⊢
  refine ⟨fun hc => ?_, fun hc => ?_⟩
  · replace h := h.1 hc
    exact mf_X12_isLetterAt_b26 hq f0 h
  · replace h := h.2 hc
    refine ⟨fun hc => ?_, fun hc => ?_⟩
    · replace h := h.1 hc
      exact mf_X12_isLetterAt_b30 hq f0 h
    · replace h := h.2 hc
      refine ⟨h.1, ?_⟩; replace h := h.2
      refine ⟨fun hc => ?_, fun hc => ?_⟩
      · replace h := h.1 hc
        exact mf_X12_isLetterAt_b30 hq f0 h
      · replace h := h.2 hc
        exact mf_X12_isLetterAt_b26 hq f0 h
set_option maxHeartbeats 1000000 in
theorem mf_X12_valuePart {Q Q' : Int → St → Prop} {σ0 : St} (hq : ∀ (r : Int) (σ1 : St), Q r σ1 → Fr S_X12_valuePart σ0 σ1 → Q' r σ1) {x1 x2 x3 : Int} {σ : St} (f0 : Fr S_X12_valuePart σ0 σ) (h : wp_X12_valuePart x1 x2 x3 σ Q) : wp_X12_valuePart x1 x2 x3 σ Q' := by
  unfold wp_X12_valuePart at h ⊢
  refine ⟨fun hc => ?_, fun hc => ?_⟩
  · replace h := h.1 hc
    refine mf_X12_item (fun r1 σ2 h gσ2 => ?_) Fr.rf h
    have fσ2 : Fr S_X12_valuePart σ0 σ2 := f0.tr gσ2 (mkS_sub (by decide) (by decide))
    refine ⟨h.1, ?_⟩; replace h := h.2
    exact hq _ _ h fσ2
  · replace h := h.2 hc
    exact hq _ _ h f0
set_option maxHeartbeats 1000000 in
theorem mf_X12_valueAnew_b209 {Q Q' : Int → St → Prop} {σ0 : St} (hq : ∀ (r : Int) (σ1 : St), Q r σ1 → Fr S_X12_valueAnew σ0 σ1 → Q' r σ1) {K11 K11' : Int → Int → Int → Int → Int → St → Prop} (hK11 : ∀ (x1 : Int) (x2 : Int) (x3 : Int) (x4 : Int) (x5 : Int) (σ : St), Fr S_X12_valueAnew σ0 σ → K11 x1 x2 x3 x4 x5 σ → K11' x1 x2 x3 x4 x5 σ) {K107 K107' : Int → Int → Int → Int → Int → Int → St → Prop} (hK107 : ∀ (x1 : Int) (x2 : Int) (x3 : Int) (x4 : Int) (x5 : Int) (x6 : Int) (σ : St), Fr S_X12_valueAnew σ0 σ → K107 x1 x2 x3 x4 x5 x6 σ → K107' x1 x2 x3 x4 x5 x6 σ) {x1 x2 x3 x4 x5 x6 : Int} {σ : St} (f0 : Fr S_X12_valueAnew σ0 σ) (h : wp_X12_valueAnew_b209 Q K11 K107 x1 x2 x3 x4 x5 x6 σ) : wp_X12_valueAnew_b209 Q' K11' K107' x1 x2 x3 x4 x5 x6 σ := by
  unfold wp_X12_valueAnew_b209 at h ⊢
  intro v28 ev28; replace h := h v28 ev28
  exact hK107 _ _ _ _ _ _ _ f0 h
set_option maxHeartbeats 1000000 in
theorem mf_X12_valueAnew_b215 {Q Q' : Int → St → Prop} {σ0 : St} (hq : ∀ (r : Int) (σ1 : St), Q r σ1 → Fr S_X12_valueAnew σ0 σ1 → Q' r σ1) {K11 K11' : Int → Int → Int → Int → Int → St → Prop} (hK11 : ∀ (x1 : Int) (x2 : Int) (x3 : Int) (x4 : Int) (x5 : Int) (σ : St), Fr S_X12_valueAnew σ0 σ → K11 x1 x2 x3 x4 x5 σ → K11' x1 x2 x3 x4 x5 σ) {x1 x2 x3 x4 x5 : Int} {σ : St} (f0 : Fr S_X12_valueAnew σ0 σ) (h : wp_X12_valueAnew_b215 Q K11 x1 x2 x3 x4 x5 σ) : wp_X12_valueAnew_b215 Q' K11' x1 x2 x3 x4 x5 σ := by
  unfold wp_X12_valueAnew_b215 at h ⊢
  intro v12 ev12; replace h := h v12 ev12
  exact hK11 _ _ _ _ _ _ f0 h
set_option maxHeartbeats 1000000 in
theorem mf_X12_valueAnew_l107 {Q Q' : Int → St → Prop} {σ0 : St} (hq : ∀ (r : Int) (σ1 : St), Q r σ1 → Fr S_X12_valueAnew σ0 σ1 → Q' r σ1) {K11 K11' : Int → Int → Int → Int → Int → St → Prop} (hK11 : ∀ (x1 : Int) (x2 : Int) (x3 : Int) (x4 : Int) (x5 : Int) (σ : St), Fr S_X12_valueAnew σ0 σ → K11 x1 x2 x3 x4 x5 σ → K11' x1 x2 x3 x4 x5 σ) : ∀ (n : Nat) (x1 : Int) (x2 : Int) (x3 : Int) (x4 : Int) (x5 : Int) (x6 : Int) (σ : St), Fr S_X12_valueAnew σ0 σ → wp_X12_valueAnew_l107 Q K11 n x1 x2 x3 x4 x5 x6 σ → wp_X12_valueAnew_l107 Q' K11' n x1 x2 x3 x4 x5 x6 σ := by
  intro n
  induction n with
  | zero => intro _ _ _ _ _ _ _ _ h; exact h.elim
  | succ n ih =>
    intro x1 x2 x3 x4 x5 x6 σ f0 h
    unfold wp_X12_valueAnew_l107 at h ⊢
    refine ⟨fun hc => ?_, fun hc => ?_⟩
    · replace h := h.1 hc
      exact mf_X12_valueAnew_b215 hq hK11 f0 h
    · replace h := h.2 hc
      refine ⟨h.1, ?_⟩; replace h := h.2
      refine ⟨fun hc => ?_, fun hc => ?_⟩
      · replace h := h.1 hc
        exact mf_X12_valueAnew_b215 hq hK11 f0 h
      · replace h := h.2 hc
        refine ⟨h.1, ?_⟩; replace h := h.2
        refine mf_X12_isLetterAt (fun r14 σ15 h gσ15 => ?_) Fr.rf h
        have fσ15 : Fr S_X12_valueAnew σ0 σ15 := f0.tr gσ15 (mkS_sub (by decide) (by decide))
        refine ⟨fun hc => ?_, fun hc => ?_⟩
        · replace h := h.1 hc
          exact mf_X12_valueAnew_b209 hq hK11 ih fσ15 h
        · replace h := h.2 hc
          refine ⟨h.1, ?_⟩; replace h := h.2
          refine mf_X12_isLetterAt (fun r16 σ17 h gσ17 => ?_) Fr.rf h
          have fσ17 : Fr S_X12_valueAnew σ0 σ17 := fσ15.tr gσ17 (mkS_sub (by decide) (by decide))
          refine ⟨fun hc => ?_, fun hc => ?_⟩
          · replace h := h.1 hc
            exact mf_X12_valueAnew_b209 hq hK11 ih fσ17 h
          · replace h := h.2 hc
            refine ⟨h.1, ?_⟩; replace h := h.2
            refine ⟨h.1, ?_⟩; replace h := h.2
            refine mf_X12_valuePart (fun r18 σ19 h gσ19 => ?_) Fr.rf h
            have fσ19 : Fr S_X12_valueAnew σ0 σ19 := fσ17.tr gσ19 (mkS_sub (by decide) (by decide))
            refine mf_X12_product2 (fun r20 σ21 h gσ21 => ?_) Fr.rf h
            have fσ21 : Fr S_X12_valueAnew σ0 σ21 := fσ19.tr gσ21 (mkS_sub (by decide) (by decide))
            refine ⟨h.1, ?_⟩; replace h := h.2
            refine mf_X12_valuePart (fun r22 σ23 h gσ23 => ?_) Fr.rf h
            have fσ23 : Fr S_X12_valueAnew σ0 σ23 := fσ21.tr gσ23 (mkS_sub (by decide) (by decide))
            refine mf_X12_product2 (fun r24 σ25 h gσ25 => ?_) Fr.rf h
            have fσ25 : Fr S_X12_valueAnew σ0 σ25 := fσ23.tr gσ25 (mkS_sub (by decide) (by decide))
            refine mf_X12_sum2 (fun r26 σ27 h gσ27 => ?_) Fr.rf h
            have fσ27 : Fr S_X12_valueAnew σ0 σ27 := fσ25.tr gσ27 (mkS_sub (by decide) (by decide))
            exact mf_X12_valueAnew_b209 hq hK11 ih fσ27 h
set_option maxHeartbeats 1000000 in
theorem mf_X12_valueAnew_b102 {Q Q' : Int → St → Prop} {σ0 : St} (hq : ∀ (r : Int) (σ1 : St), Q r σ1 → Fr S_X12_valueAnew σ0 σ1 → Q' r σ1) {K11 K11' : Int → Int → Int → Int → Int → St → Prop} (hK11 : ∀ (x1 : Int) (x2 : Int) (x3 : Int) (x4 : Int) (x5 : Int) (σ : St), Fr S_X12_valueAnew σ0 σ → K11 x1 x2 x3 x4 x5 σ → K11' x1 x2 x3 x4 x5 σ) {x1 x2 x3 x4 x5 : Int} {σ : St} (f0 : Fr S_X12_valueAnew σ0 σ) (h : wp_X12_valueAnew_b102 Q K11 x1 x2 x3 x4 x5 σ) : wp_X12_valueAnew_b102 Q' K11' x1 x2 x3 x4 x5 σ := by
  unfold wp_X12_valueAnew_b102 at h ⊢
  intro v13 ev13; replace h := h v13 ev13
  exact mf_X12_valueAnew_l107 hq hK11 bigN _ _ _ _ _ _ _ f0 h
set_option maxHeartbeats 1000000 in
theorem mf_X12_valueAnew_l11 {Q Q' : Int → St → Prop} {σ0 : St} (hq : ∀ (r : Int) (σ1 : St), Q r σ1 → Fr S_X12_valueAnew σ0 σ1 → Q' r σ1) : ∀ (n : Nat) (x1 : Int) (x2 : Int) (x3 : Int) (x4 : Int) (x5 : Int) (σ : St), Fr S_X12_valueAnew σ0 σ → wp_X12_valueAnew_l11 Q n x1 x2 x3 x4 x5 σ → wp_X12_valueAnew_l11 Q' n x1 x2 x3 x4 x5 σ := by
  intro n
  induction n with
  | zero => intro _ _ _ _ _ _ _ h; exact h.elim
  | succ n ih =>
    intro x1 x2 x3 x4 x5 σ f0 h
    unfold wp_X12_valueAnew_l11 at h ⊢
    refine ⟨fun hc => ?_, fun hc => ?_⟩
    · replace h := h.1 hc
      exact hq _ _ h f0
    · replace h := h.2 hc
      refine mf_X12_isIn (fun r2 σ3 h gσ3 => ?_) Fr.rf h
      have fσ3 : Fr S_X12_valueAnew σ0 σ3 := f0.tr gσ3 (mkS_sub (by decide) (by decide))
      refine ⟨fun hc => ?_, fun hc => ?_⟩
      · replace h := h.1 hc
        exact mf_X12_valueAnew_b215 hq ih fσ3 h
      · replace h := h.2 hc
        refine ⟨h.1, ?_⟩; replace h := h.2
        refine ⟨fun hc => ?_, fun hc => ?_⟩
        · replace h := h.1 hc
          refine ⟨h.1, ?_⟩; replace h := h.2
          refine ⟨fun hc => ?_, fun hc => ?_⟩
          · replace h := h.1 hc
            exact mf_X12_valueAnew_b102 hq ih fσ3 h
          · replace h := h.2 hc
            refine ⟨h.1, ?_⟩; replace h := h.2
            refine mf_X12_isLetterAt (fun r4 σ5 h gσ5 => ?_) Fr.rf h
            have fσ5 : Fr S_X12_valueAnew σ0 σ5 := fσ3.tr gσ5 (mkS_sub (by decide) (by decide))
            refine ⟨fun hc => ?_, fun hc => ?_⟩
            · replace h := h.1 hc
              exact mf_X12_valueAnew_b102 hq ih fσ5 h
            · replace h := h.2 hc
              refine ⟨h.1, ?_⟩; replace h := h.2
              refine ⟨h.1, ?_⟩; replace h := h.2
              refine mf_X12_valuePart (fun r6 σ7 h gσ7 => ?_) Fr.rf h
              have fσ7 : Fr S_X12_valueAnew σ0 σ7 := fσ5.tr gσ7 (mkS_sub (by decide) (by decide))
              refine mf_X12_product2 (fun r8 σ9 h gσ9 => ?_) Fr.rf h
              have fσ9 : Fr S_X12_valueAnew σ0 σ9 := fσ7.tr gσ9 (mkS_sub (by decide) (by decide))
              refine mf_X12_sum2 (fun r10 σ11 h gσ11 => ?_) Fr.rf h
              have fσ11 : Fr S_X12_valueAnew σ0 σ11 := fσ9.tr gσ11 (mkS_sub (by decide) (by decide))
              exact mf_X12_valueAnew_b102 hq ih fσ11 h
        · replace h := h.2 hc
          exact mf_X12_valueAnew_b215 hq ih fσ3 h
set_option maxHeartbeats 1000000 in
theorem mf_X12_valueAnew {Q Q' : Int → St → Prop} {σ0 : St} (hq : ∀ (r : Int) (σ1 : St), Q r σ1 → Fr S_X12_valueAnew σ0 σ1 → Q' r σ1) {x1 x2 x3 : Int} {σ : St} (f0 : Fr S_X12_valueAnew σ0 σ) (h : wp_X12_valueAnew x1 x2 x3 σ Q) : wp_X12_valueAnew x1 x2 x3 σ Q' := by
  unfold wp_X12_valueAnew at h ⊢
  intro v1 ev1; replace h := h v1 ev1
  exact mf_X12_valueAnew_l11 hq bigN _ _ _ _ _ _ f0 h
set_option maxHeartbeats 1000000 in
theorem mf_X12_turnsOnce_l27 {Q Q' : Int → St → Prop} {σ0 : St} (hq : ∀ (r : Int) (σ1 : St), Q r σ1 → Fr S_X12_turnsOnce σ0 σ1 → Q' r σ1) {K4 K4' : Int → Int → St → Prop} (hK4 : ∀ (x1 : Int) (x2 : Int) (σ : St), Fr S_X12_turnsOnce σ0 σ → K4 x1 x2 σ → K4' x1 x2 σ) {K16 K16' : Int → Int → Int → St → Prop} (hK16 : ∀ (x1 : Int) (x2 : Int) (x3 : Int) (σ : St), Fr S_X12_turnsOnce σ0 σ → K16 x1 x2 x3 σ → K16' x1 x2 x3 σ) : ∀ (n : Nat) (x1 : Int) (x2 : Int) (x3 : Int) (x4 : Int) (σ : St), Fr S_X12_turnsOnce σ0 σ → wp_X12_turnsOnce_l27 Q K4 K16 n x1 x2 x3 x4 σ → wp_X12_turnsOnce_l27 Q' K4' K16' n x1 x2 x3 x4 σ := by
  intro n
  induction n with
  | zero => intro _ _ _ _ _ _ h; exact h.elim
  | succ n ih =>
    intro x1 x2 x3 x4 σ f0 h
    unfold wp_X12_turnsOnce_l27 at h ⊢
    refine ⟨fun hc => ?_, fun hc => ?_⟩
    · replace h := h.1 hc
      intro v5 ev5; replace h := h v5 ev5
      exact hK16 _ _ _ _ f0 h
    · replace h := h.2 hc
      refine mf_X12_item (fun r6 σ7 h gσ7 => ?_) Fr.rf h
      have fσ7 : Fr S_X12_turnsOnce σ0 σ7 := f0.tr gσ7 (mkS_sub (by decide) (by decide))
      refine mf_X12_valueAnew (fun r8 σ9 h gσ9 => ?_) Fr.rf h
      have fσ9 : Fr S_X12_turnsOnce σ0 σ9 := fσ7.tr gσ9 (mkS_sub (by decide) (by decide))
      refine ⟨h.1, fun σ10 eσ10 => ?_⟩; replace h := h.2 σ10 eσ10; have fσ10 : Fr S_X12_turnsOnce σ0 σ10 := by rw [eσ10]; exact fσ9.up rfl
      intro v11 ev11; replace h := h v11 ev11
      exact ih _ _ _ _ _ fσ10 h
set_option maxHeartbeats 1000000 in
theorem mf_X12_turnsOnce_l16 {Q Q' : Int → St → Prop} {σ0 : St} (hq : ∀ (r : Int) (σ1 : St), Q r σ1 → Fr S_X12_turnsOnce σ0 σ1 → Q' r σ1) {K4 K4' : Int → Int → St → Prop} (hK4 : ∀ (x1 : Int) (x2 : Int) (σ : St), Fr S_X12_turnsOnce σ0 σ → K4 x1 x2 σ → K4' x1 x2 σ) : ∀ (n : Nat) (x1 : Int) (x2 : Int) (x3 : Int) (σ : St), Fr S_X12_turnsOnce σ0 σ → wp_X12_turnsOnce_l16 Q K4 n x1 x2 x3 σ → wp_X12_turnsOnce_l16 Q' K4' n x1 x2 x3 σ := by
  intro n
  induction n with
  | zero => intro _ _ _ _ _ h; exact h.elim
  | succ n ih =>
    intro x1 x2 x3 σ f0 h
    unfold wp_X12_turnsOnce_l16 at h ⊢
    refine ⟨fun hc => ?_, fun hc => ?_⟩
    · replace h := h.1 hc
      intro v3 ev3; replace h := h v3 ev3
      exact hK4 _ _ _ f0 h
    · replace h := h.2 hc
      exact mf_X12_turnsOnce_l27 hq hK4 ih bigN _ _ _ _ _ f0 h
set_option maxHeartbeats 1000000 in
theorem mf_X12_turnsOnce_b139 {Q Q' : Int → St → Prop} {σ0 : St} (hq : ∀ (r : Int) (σ1 : St), Q r σ1 → Fr S_X12_turnsOnce σ0 σ1 → Q' r σ1) {K74 K74' : Int → Int → St → Prop} (hK74 : ∀ (x1 : Int) (x2 : Int) (σ : St), Fr S_X12_turnsOnce σ0 σ → K74 x1 x2 σ → K74' x1 x2 σ) {K86 K86' : Int → Int → Int → St → Prop} (hK86 : ∀ (x1 : Int) (x2 : Int) (x3 : Int) (σ : St), Fr S_X12_turnsOnce σ0 σ → K86 x1 x2 x3 σ → K86' x1 x2 x3 σ) {K97 K97' : Int → Int → Int → Int → St → Prop} (hK97 : ∀ (x1 : Int) (x2 : Int) (x3 : Int) (x4 : Int) (σ : St), Fr S_X12_turnsOnce σ0 σ → K97 x1 x2 x3 x4 σ → K97' x1 x2 x3 x4 σ) {x2 x3 x4 x5 s0 : Int} {σ : St} (f0 : Fr S_X12_turnsOnce σ0 σ) (h : wp_X12_turnsOnce_b139 Q K74 K86 K97 x2 x3 x4 x5 s0 σ) : wp_X12_turnsOnce_b139 Q' K74' K86' K97' x2 x3 x4 x5 s0 σ := by
  unfold wp_X12_turnsOnce_b139 at h ⊢
  refine ⟨h.1, ?_⟩; replace h := h.2
  refine ⟨h.1, fun σ15 eσ15 => ?_⟩; replace h := h.2 σ15 eσ15; have fσ15 : Fr S_X12_turnsOnce σ0 σ15 := by rw [eσ15]; exact f0.up rfl
  intro v16 ev16; replace h := h v16 ev16
  exact hK97 _ _ _ _ _ fσ15 h
set_option maxHeartbeats 1000000 in
theorem mf_X12_turnsOnce_b134 {Q Q' : Int → St → Prop} {σ0 : St} (hq : ∀ (r : Int) (σ1 : St), Q r σ1 → Fr S_X12_turnsOnce σ0 σ1 → Q' r σ1) {K74 K74' : Int → Int → St → Prop} (hK74 : ∀ (x1 : Int) (x2 : Int) (σ : St), Fr S_X12_turnsOnce σ0 σ → K74 x1 x2 σ → K74' x1 x2 σ) {K86 K86' : Int → Int → Int → St → Prop} (hK86 : ∀ (x1 : Int) (x2 : Int) (x3 : Int) (σ : St), Fr S_X12_turnsOnce σ0 σ → K86 x1 x2 x3 σ → K86' x1 x2 x3 σ) {K97 K97' : Int → Int → Int → Int → St → Prop} (hK97 : ∀ (x1 : Int) (x2 : Int) (x3 : Int) (x4 : Int) (σ : St), Fr S_X12_turnsOnce σ0 σ → K97 x1 x2 x3 x4 σ → K97' x1 x2 x3 x4 σ) {x2 x3 x4 x5 : Int} {σ : St} (f0 : Fr S_X12_turnsOnce σ0 σ) (h : wp_X12_turnsOnce_b134 Q K74 K86 K97 x2 x3 x4 x5 σ) : wp_X12_turnsOnce_b134 Q' K74' K86' K97' x2 x3 x4 x5 σ := by
  unfold wp_X12_turnsOnce_b134 at h ⊢
  exact mf_X12_turnsOnce_b139 hq hK74 hK86 hK97 f0 h
set_option maxHeartbeats 1000000 in
theorem mf_X12_turnsOnce_l97 {Q Q' : Int → St → Prop} {σ0 : St} (hq : ∀ (r : Int) (σ1 : St), Q r σ1 → Fr S_X12_turnsOnce σ0 σ1 → Q' r σ1) {K74 K74' : Int → Int → St → Prop} (hK74 : ∀ (x1 : Int) (x2 : Int) (σ : St), Fr S_X12_turnsOnce σ0 σ → K74 x1 x2 σ → K74' x1 x2 σ) {K86 K86' : Int → Int → Int → St → Prop} (hK86 : ∀ (x1 : Int) (x2 : Int) (x3 : Int) (σ : St), Fr S_X12_turnsOnce σ0 σ → K86 x1 x2 x3 σ → K86' x1 x2 x3 σ) : ∀ (n : Nat) (x1 : Int) (x2 : Int) (x3 : Int) (x4 : Int) (σ : St), Fr S_X12_turnsOnce σ0 σ → wp_X12_turnsOnce_l97 Q K74 K86 n x1 x2 x3 x4 σ → wp_X12_turnsOnce_l97 Q' K74' K86' n x1 x2 x3 x4 σ := by
  intro n
  induction n with
  | zero => intro _ _ _ _ _ _ h; exact h.elim
  | succ n ih =>
    intro x1 x2 x3 x4 σ f0 h
    unfold wp_X12_turnsOnce_l97 at h ⊢
    refine ⟨fun hc => ?_, fun hc => ?_⟩
    · replace h := h.1 hc
      intro v12 ev12; replace h := h v12 ev12
      exact hK86 _ _ _ _ f0 h
    · replace h := h.2 hc
      refine mf_X12_item (fun r13 σ14 h gσ14 => ?_) Fr.rf h
      have fσ14 : Fr S_X12_turnsOnce σ0 σ14 := f0.tr gσ14 (mkS_sub (by decide) (by decide))
      refine ⟨fun hc => ?_, fun hc => ?_⟩
      · replace h := h.1 hc
        exact mf_X12_turnsOnce_b134 hq hK74 hK86 ih fσ14 h
      · replace h := h.2 hc
        refine ⟨h.1, ?_⟩; replace h := h.2
        refine ⟨h.1, ?_⟩; replace h := h.2
        refine ⟨fun hc => ?_, fun hc => ?_⟩
        · replace h := h.1 hc
          exact mf_X12_turnsOnce_b139 hq hK74 hK86 ih fσ14 h
        · replace h := h.2 hc
          exact mf_X12_turnsOnce_b134 hq hK74 hK86 ih fσ14 h
set_option maxHeartbeats 1000000 in
theorem mf_X12_turnsOnce_l86 {Q Q' : Int → St → Prop} {σ0 : St} (hq : ∀ (r : Int) (σ1 : St), Q r σ1 → Fr S_X12_turnsOnce σ0 σ1 → Q' r σ1) {K74 K74' : Int → Int → St → Prop} (hK74 : ∀ (x1 : Int) (x2 : Int) (σ : St), Fr S_X12_turnsOnce σ0 σ → K74 x1 x2 σ → K74' x1 x2 σ) : ∀ (n : Nat) (x1 : Int) (x2 : Int) (x3 : Int) (σ : St), Fr S_X12_turnsOnce σ0 σ → wp_X12_turnsOnce_l86 Q K74 n x1 x2 x3 σ → wp_X12_turnsOnce_l86 Q' K74' n x1 x2 x3 σ := by
  intro n
  induction n with
  | zero => intro _ _ _ _ _ h; exact h.elim
  | succ n ih =>
    intro x1 x2 x3 σ f0 h
    unfold wp_X12_turnsOnce_l86 at h ⊢
    refine ⟨fun hc => ?_, fun hc => ?_⟩
    · replace h := h.1 hc
      intro v4 ev4; replace h := h v4 ev4
      exact hK74 _ _ _ f0 h
    · replace h := h.2 hc
      exact mf_X12_turnsOnce_l97 hq hK74 ih bigN _ _ _ _ _ f0 h
set_option maxHeartbeats 1000000 in
theorem mf_X12_turnsOnce_l74 {Q Q' : Int → St → Prop} {σ0 : St} (hq : ∀ (r : Int) (σ1 : St), Q r σ1 → Fr S_X12_turnsOnce σ0 σ1 → Q' r σ1) : ∀ (n : Nat) (x1 : Int) (x2 : Int) (σ : St), Fr S_X12_turnsOnce σ0 σ → wp_X12_turnsOnce_l74 Q n x1 x2 σ → wp_X12_turnsOnce_l74 Q' n x1 x2 σ := by
  intro n
  induction n with
  | zero => intro _ _ _ _ h; exact h.elim
  | succ n ih =>
    intro x1 x2 σ f0 h
    unfold wp_X12_turnsOnce_l74 at h ⊢
    refine ⟨fun hc => ?_, fun hc => ?_⟩
    · replace h := h.1 hc
      exact ⟨h.1, hq _ _ h.2 f0⟩
    · replace h := h.2 hc
      intro v2 ev2; replace h := h v2 ev2
      exact mf_X12_turnsOnce_l86 hq ih bigN _ _ _ _ f0 h
set_option maxHeartbeats 1000000 in
theorem mf_X12_turnsOnce_l4 {Q Q' : Int → St → Prop} {σ0 : St} (hq : ∀ (r : Int) (σ1 : St), Q r σ1 → Fr S_X12_turnsOnce σ0 σ1 → Q' r σ1) : ∀ (n : Nat) (x1 : Int) (x2 : Int) (σ : St), Fr S_X12_turnsOnce σ0 σ → wp_X12_turnsOnce_l4 Q n x1 x2 σ → wp_X12_turnsOnce_l4 Q' n x1 x2 σ := by
  intro n
  induction n with
  | zero => intro _ _ _ _ h; exact h.elim
  | succ n ih =>
    intro x1 x2 σ f0 h
    unfold wp_X12_turnsOnce_l4 at h ⊢
    refine ⟨fun hc => ?_, fun hc => ?_⟩
    · replace h := h.1 hc
      exact mf_X12_turnsOnce_l74 hq bigN _ _ _ f0 h
    · replace h := h.2 hc
      intro v1 ev1; replace h := h v1 ev1
      exact mf_X12_turnsOnce_l16 hq ih bigN _ _ _ _ f0 h
set_option maxHeartbeats 1000000 in
theorem mf_X12_turnsOnce {Q Q' : Int → St → Prop} {σ0 : St} (hq : ∀ (r : Int) (σ1 : St), Q r σ1 → Fr S_X12_turnsOnce σ0 σ1 → Q' r σ1) {σ : St} (f0 : Fr S_X12_turnsOnce σ0 σ) (h : wp_X12_turnsOnce  σ Q) : wp_X12_turnsOnce  σ Q' := by
  unfold wp_X12_turnsOnce at h ⊢
  exact mf_X12_turnsOnce_l4 hq bigN _ _ _ f0 h
set_option maxHeartbeats 1000000 in
theorem mf_X12_settles_l36 {Q Q' : Int → St → Prop} {σ0 : St} (hq : ∀ (r : Int) (σ1 : St), Q r σ1 → Fr S_X12_settles σ0 σ1 → Q' r σ1) : ∀ (n : Nat) (σ : St), Fr S_X12_settles σ0 σ → wp_X12_settles_l36 Q n  σ → wp_X12_settles_l36 Q' n  σ := by
  intro n
  induction n with
  | zero => intro _ _ h; exact h.elim
  | succ n ih =>
    intro σ f0 h
    unfold wp_X12_settles_l36 at h ⊢
    refine ⟨fun hc => ?_, fun hc => ?_⟩
    · replace h := h.1 hc
      exact hq _ _ h f0
    · replace h := h.2 hc
      refine mf_X12_turnsOnce (fun r6 σ7 h gσ7 => ?_) Fr.rf h
      have fσ7 : Fr S_X12_settles σ0 σ7 := f0.tr gσ7 (mkS_sub (by decide) (by decide))
      refine ⟨fun hc => ?_, fun hc => ?_⟩
      · replace h := h.1 hc
        intro σ8 eσ8; replace h := h σ8 eσ8; have fσ8 : Fr S_X12_settles σ0 σ8 := by rw [eσ8]; exact fσ7.up rfl
        exact ih  _ fσ8 h
      · replace h := h.2 hc
        exact hq _ _ h fσ7
set_option maxHeartbeats 1000000 in
theorem mf_X12_settles_l6 {Q Q' : Int → St → Prop} {σ0 : St} (hq : ∀ (r : Int) (σ1 : St), Q r σ1 → Fr S_X12_settles σ0 σ1 → Q' r σ1) : ∀ (n : Nat) (x1 : Int) (σ : St), Fr S_X12_settles σ0 σ → wp_X12_settles_l6 Q n x1 σ → wp_X12_settles_l6 Q' n x1 σ := by
  intro n
  induction n with
  | zero => intro _ _ _ h; exact h.elim
  | succ n ih =>
    intro x1 σ f0 h
    unfold wp_X12_settles_l6 at h ⊢
    refine ⟨fun hc => ?_, fun hc => ?_⟩
    · replace h := h.1 hc
      intro σ3 eσ3; replace h := h σ3 eσ3; have fσ3 : Fr S_X12_settles σ0 σ3 := by rw [eσ3]; exact f0.up rfl
      exact mf_X12_settles_l36 hq bigN  _ fσ3 h
    · replace h := h.2 hc
      refine ⟨h.1, fun σ4 eσ4 => ?_⟩; replace h := h.2 σ4 eσ4; have fσ4 : Fr S_X12_settles σ0 σ4 := by rw [eσ4]; exact f0.up rfl
      intro v5 ev5; replace h := h v5 ev5
      exact ih _ _ fσ4 h
set_option maxHeartbeats 1000000 in
theorem mf_X12_settles {Q Q' : Int → St → Prop} {σ0 : St} (hq : ∀ (r : Int) (σ1 : St), Q r σ1 → Fr S_X12_settles σ0 σ1 → Q' r σ1) {σ : St} (f0 : Fr S_X12_settles σ0 σ) (h : wp_X12_settles  σ Q) : wp_X12_settles  σ Q' := by
  unfold wp_X12_settles at h ⊢
  refine mf_X12_looks (fun r1 σ2 h gσ2 => ?_) Fr.rf h
  have fσ2 : Fr S_X12_settles σ0 σ2 := f0.tr gσ2 (mkS_sub (by decide) (by decide))
  exact mf_X12_settles_l6 hq bigN _ _ fσ2 h
set_option maxHeartbeats 1000000 in
theorem mf_X12_value {Q Q' : Int → St → Prop} {σ0 : St} (hq : ∀ (r : Int) (σ1 : St), Q r σ1 → Fr S_X12_value σ0 σ1 → Q' r σ1) {x1 x2 x3 : Int} {σ : St} (f0 : Fr S_X12_value σ0 σ) (h : wp_X12_value x1 x2 x3 σ Q) : wp_X12_value x1 x2 x3 σ Q' := by
  unfold wp_X12_value at h ⊢
  refine mf_X12_isItem (fun r1 σ2 h gσ2 => ?_) Fr.rf h
  have fσ2 : Fr S_X12_value σ0 σ2 := f0.tr gσ2 (mkS_sub (by decide) (by decide))
  refine ⟨fun hc => ?_, fun hc => ?_⟩
  · replace h := h.1 hc
    refine mf_X12_settles (fun r3 σ4 h gσ4 => ?_) Fr.rf h
    have fσ4 : Fr S_X12_value σ0 σ4 := fσ2.tr gσ4 (mkS_sub (by decide) (by decide))
    refine ⟨fun hc => ?_, fun hc => ?_⟩
    · replace h := h.1 hc
      exact hq _ _ h fσ4
    · replace h := h.2 hc
      refine mf_X12_item (fun r5 σ6 h gσ6 => ?_) Fr.rf h
      have fσ6 : Fr S_X12_value σ0 σ6 := fσ4.tr gσ6 (mkS_sub (by decide) (by decide))
      refine ⟨h.1, ?_⟩; replace h := h.2
      exact hq _ _ h fσ6
  · replace h := h.2 hc
    exact hq _ _ h fσ2
set_option maxHeartbeats 1000000 in
theorem mf_X12_rounds {Q Q' : Int → St → Prop} {σ0 : St} (hq : ∀ (r : Int) (σ1 : St), Q r σ1 → Fr S_X12_rounds σ0 σ1 → Q' r σ1) {σ : St} (f0 : Fr S_X12_rounds σ0 σ) (h : wp_X12_rounds  σ Q) : wp_X12_rounds  σ Q' := by
  unfold wp_X12_rounds at h ⊢
  refine mf_X12_settles (fun r1 σ2 h gσ2 => ?_) Fr.rf h
  have fσ2 : Fr S_X12_rounds σ0 σ2 := f0.tr gσ2 (mkS_sub (by decide) (by decide))
  refine ⟨fun hc => ?_, fun hc => ?_⟩
  · replace h := h.1 hc
    exact hq _ _ h fσ2
  · replace h := h.2 hc
    exact hq _ _ h fσ2
set_option maxHeartbeats 1000000 in
theorem mf_X12_keeps_b116 {Q Q' : Int → St → Prop} {σ0 : St} (hq : ∀ (r : Int) (σ1 : St), Q r σ1 → Fr S_X12_keeps σ0 σ1 → Q' r σ1) {σ : St} (f0 : Fr S_X12_keeps σ0 σ) (h : wp_X12_keeps_b116 Q  σ) : wp_X12_keeps_b116 Q'  σ := by
  unfold wp_X12_keeps_b116 at h ⊢
  exact hq _ _ h f0
set_option maxHeartbeats 1000000 in
theorem mf_X12_keeps_b162 {Q Q' : Int → St → Prop} {σ0 : St} (hq : ∀ (r : Int) (σ1 : St), Q r σ1 → Fr S_X12_keeps σ0 σ1 → Q' r σ1) {σ : St} (f0 : Fr S_X12_keeps σ0 σ) (h : wp_X12_keeps_b162 Q  σ) : wp_X12_keeps_b162 Q'  σ := by
  unfold wp_X12_keeps_b162 at h ⊢
  exact hq _ _ h f0
set_option maxHeartbeats 1000000 in
theorem mf_X12_keeps_b164 {Q Q' : Int → St → Prop} {σ0 : St} (hq : ∀ (r : Int) (σ1 : St), Q r σ1 → Fr S_X12_keeps σ0 σ1 → Q' r σ1) {x2 : Int} {σ : St} (f0 : Fr S_X12_keeps σ0 σ) (h : wp_X12_keeps_b164 Q x2 σ) : wp_X12_keeps_b164 Q' x2 σ := by
  unfold wp_X12_keeps_b164 at h ⊢
  refine mf_X12_sum2 (fun r15 σ16 h gσ16 => ?_) Fr.rf h
  have fσ16 : Fr S_X12_keeps σ0 σ16 := f0.tr gσ16 (mkS_sub (by decide) (by decide))
  refine ⟨fun hc => ?_, fun hc => ?_⟩
  · replace h := h.1 hc
    exact hq _ _ h fσ16
  · replace h := h.2 hc
    exact hq _ _ h fσ16
set_option maxHeartbeats 1000000 in
theorem mf_X12_keeps {Q Q' : Int → St → Prop} {σ0 : St} (hq : ∀ (r : Int) (σ1 : St), Q r σ1 → Fr S_X12_keeps σ0 σ1 → Q' r σ1) {x1 x2 x3 : Int} {σ : St} (f0 : Fr S_X12_keeps σ0 σ) (h : wp_X12_keeps x1 x2 x3 σ Q) : wp_X12_keeps x1 x2 x3 σ Q' := by
  unfold wp_X12_keeps at h ⊢
  refine ⟨fun hs0 => ?_, fun hs1 => ?_, fun hs2 => ?_, fun hs3 => ?_, fun hs4 => ?_, fun hs5 => ?_, fun hs6 => ?_⟩
  · replace h := h.1 hs0
    refine mf_X12_sum2 (fun r1 σ2 h gσ2 => ?_) Fr.rf h
    have fσ2 : Fr S_X12_keeps σ0 σ2 := f0.tr gσ2 (mkS_sub (by decide) (by decide))
    refine mf_X12_sum2 (fun r3 σ4 h gσ4 => ?_) Fr.rf h
    have fσ4 : Fr S_X12_keeps σ0 σ4 := fσ2.tr gσ4 (mkS_sub (by decide) (by decide))
    refine ⟨fun hc => ?_, fun hc => ?_⟩
    · replace h := h.1 hc
      exact hq _ _ h fσ4
    · replace h := h.2 hc
      exact hq _ _ h fσ4
  · replace h := h.2.1 hs1
    exact mf_X12_keeps_b164 hq f0 h
  · replace h := h.2.2.1 hs2
    refine mf_X12_sum2 (fun r5 σ6 h gσ6 => ?_) Fr.rf h
    have fσ6 : Fr S_X12_keeps σ0 σ6 := f0.tr gσ6 (mkS_sub (by decide) (by decide))
    refine ⟨fun hc => ?_, fun hc => ?_⟩
    · replace h := h.1 hc
      exact hq _ _ h fσ6
    · replace h := h.2 hc
      exact hq _ _ h fσ6
  · replace h := h.2.2.2.1 hs3
    exact mf_X12_keeps_b164 hq f0 h
  · replace h := h.2.2.2.2.1 hs4
    refine mf_X12_product2 (fun r7 σ8 h gσ8 => ?_) Fr.rf h
    have fσ8 : Fr S_X12_keeps σ0 σ8 := f0.tr gσ8 (mkS_sub (by decide) (by decide))
    refine ⟨fun hc => ?_, fun hc => ?_⟩
    · replace h := h.1 hc
      exact mf_X12_keeps_b116 hq fσ8 h
    · replace h := h.2 hc
      refine mf_X12_product2 (fun r9 σ10 h gσ10 => ?_) Fr.rf h
      have fσ10 : Fr S_X12_keeps σ0 σ10 := fσ8.tr gσ10 (mkS_sub (by decide) (by decide))
      refine ⟨fun hc => ?_, fun hc => ?_⟩
      · replace h := h.1 hc
        exact mf_X12_keeps_b116 hq fσ10 h
      · replace h := h.2 hc
        exact hq _ _ h fσ10
  · replace h := h.2.2.2.2.2.1 hs5
    refine mf_X12_product2 (fun r11 σ12 h gσ12 => ?_) Fr.rf h
    have fσ12 : Fr S_X12_keeps σ0 σ12 := f0.tr gσ12 (mkS_sub (by decide) (by decide))
    refine ⟨fun hc => ?_, fun hc => ?_⟩
    · replace h := h.1 hc
      exact mf_X12_keeps_b162 hq fσ12 h
    · replace h := h.2 hc
      refine mf_X12_product2 (fun r13 σ14 h gσ14 => ?_) Fr.rf h
      have fσ14 : Fr S_X12_keeps σ0 σ14 := fσ12.tr gσ14 (mkS_sub (by decide) (by decide))
      refine ⟨fun hc => ?_, fun hc => ?_⟩
      · replace h := h.1 hc
        exact mf_X12_keeps_b162 hq fσ14 h
      · replace h := h.2 hc
        exact hq _ _ h fσ14
  · replace h := h.2.2.2.2.2.2 hs6
    exact mf_X12_keeps_b164 hq f0 h
set_option maxHeartbeats 1000000 in
theorem mf_X12_keepsThree {Q Q' : Int → St → Prop} {σ0 : St} (hq : ∀ (r : Int) (σ1 : St), Q r σ1 → Fr S_X12_keepsThree σ0 σ1 → Q' r σ1) {x1 x2 x3 x4 : Int} {σ : St} (f0 : Fr S_X12_keepsThree σ0 σ) (h : wp_X12_keepsThree x1 x2 x3 x4 σ Q) : wp_X12_keepsThree x1 x2 x3 x4 σ Q' := by
  unfold wp_X12_keepsThree at h ⊢
  refine ⟨fun hs0 => ?_, fun hs1 => ?_, fun hs2 => ?_, fun hs3 => ?_⟩
  · replace h := h.1 hs0
    refine mf_X12_sum2 (fun r1 σ2 h gσ2 => ?_) Fr.rf h
    have fσ2 : Fr S_X12_keepsThree σ0 σ2 := f0.tr gσ2 (mkS_sub (by decide) (by decide))
    refine mf_X12_sum2 (fun r3 σ4 h gσ4 => ?_) Fr.rf h
    have fσ4 : Fr S_X12_keepsThree σ0 σ4 := fσ2.tr gσ4 (mkS_sub (by decide) (by decide))
    refine mf_X12_sum2 (fun r5 σ6 h gσ6 => ?_) Fr.rf h
    have fσ6 : Fr S_X12_keepsThree σ0 σ6 := fσ4.tr gσ6 (mkS_sub (by decide) (by decide))
    refine mf_X12_sum2 (fun r7 σ8 h gσ8 => ?_) Fr.rf h
    have fσ8 : Fr S_X12_keepsThree σ0 σ8 := fσ6.tr gσ8 (mkS_sub (by decide) (by decide))
    refine ⟨fun hc => ?_, fun hc => ?_⟩
    · replace h := h.1 hc
      exact hq _ _ h fσ8
    · replace h := h.2 hc
      exact hq _ _ h fσ8
  · replace h := h.2.1 hs1
    refine mf_X12_product2 (fun r9 σ10 h gσ10 => ?_) Fr.rf h
    have fσ10 : Fr S_X12_keepsThree σ0 σ10 := f0.tr gσ10 (mkS_sub (by decide) (by decide))
    refine mf_X12_product2 (fun r11 σ12 h gσ12 => ?_) Fr.rf h
    have fσ12 : Fr S_X12_keepsThree σ0 σ12 := fσ10.tr gσ12 (mkS_sub (by decide) (by decide))
    refine mf_X12_product2 (fun r13 σ14 h gσ14 => ?_) Fr.rf h
    have fσ14 : Fr S_X12_keepsThree σ0 σ14 := fσ12.tr gσ14 (mkS_sub (by decide) (by decide))
    refine mf_X12_product2 (fun r15 σ16 h gσ16 => ?_) Fr.rf h
    have fσ16 : Fr S_X12_keepsThree σ0 σ16 := fσ14.tr gσ16 (mkS_sub (by decide) (by decide))
    refine ⟨fun hc => ?_, fun hc => ?_⟩
    · replace h := h.1 hc
      exact hq _ _ h fσ16
    · replace h := h.2 hc
      exact hq _ _ h fσ16
  · replace h := h.2.2.1 hs2
    refine mf_X12_sum2 (fun r17 σ18 h gσ18 => ?_) Fr.rf h
    have fσ18 : Fr S_X12_keepsThree σ0 σ18 := f0.tr gσ18 (mkS_sub (by decide) (by decide))
    refine mf_X12_product2 (fun r19 σ20 h gσ20 => ?_) Fr.rf h
    have fσ20 : Fr S_X12_keepsThree σ0 σ20 := fσ18.tr gσ20 (mkS_sub (by decide) (by decide))
    refine mf_X12_product2 (fun r21 σ22 h gσ22 => ?_) Fr.rf h
    have fσ22 : Fr S_X12_keepsThree σ0 σ22 := fσ20.tr gσ22 (mkS_sub (by decide) (by decide))
    refine mf_X12_product2 (fun r23 σ24 h gσ24 => ?_) Fr.rf h
    have fσ24 : Fr S_X12_keepsThree σ0 σ24 := fσ22.tr gσ24 (mkS_sub (by decide) (by decide))
    refine mf_X12_sum2 (fun r25 σ26 h gσ26 => ?_) Fr.rf h
    have fσ26 : Fr S_X12_keepsThree σ0 σ26 := fσ24.tr gσ26 (mkS_sub (by decide) (by decide))
    refine ⟨fun hc => ?_, fun hc => ?_⟩
    · replace h := h.1 hc
      exact hq _ _ h fσ26
    · replace h := h.2 hc
      exact hq _ _ h fσ26
  · replace h := h.2.2.2 hs3
    refine mf_X12_sum2 (fun r27 σ28 h gσ28 => ?_) Fr.rf h
    have fσ28 : Fr S_X12_keepsThree σ0 σ28 := f0.tr gσ28 (mkS_sub (by decide) (by decide))
    refine mf_X12_product2 (fun r29 σ30 h gσ30 => ?_) Fr.rf h
    have fσ30 : Fr S_X12_keepsThree σ0 σ30 := fσ28.tr gσ30 (mkS_sub (by decide) (by decide))
    refine mf_X12_product2 (fun r31 σ32 h gσ32 => ?_) Fr.rf h
    have fσ32 : Fr S_X12_keepsThree σ0 σ32 := fσ30.tr gσ32 (mkS_sub (by decide) (by decide))
    refine mf_X12_product2 (fun r33 σ34 h gσ34 => ?_) Fr.rf h
    have fσ34 : Fr S_X12_keepsThree σ0 σ34 := fσ32.tr gσ34 (mkS_sub (by decide) (by decide))
    refine mf_X12_sum2 (fun r35 σ36 h gσ36 => ?_) Fr.rf h
    have fσ36 : Fr S_X12_keepsThree σ0 σ36 := fσ34.tr gσ36 (mkS_sub (by decide) (by decide))
    refine ⟨fun hc => ?_, fun hc => ?_⟩
    · replace h := h.1 hc
      exact hq _ _ h fσ36
    · replace h := h.2 hc
      exact hq _ _ h fσ36
set_option maxHeartbeats 1000000 in
theorem mf_X12_holds_b135 {Q Q' : Int → St → Prop} {σ0 : St} (hq : ∀ (r : Int) (σ1 : St), Q r σ1 → Fr S_X12_holds σ0 σ1 → Q' r σ1) {K31 K31' : Int → Int → Int → Int → St → Prop} (hK31 : ∀ (x1 : Int) (x2 : Int) (x3 : Int) (x4 : Int) (σ : St), Fr S_X12_holds σ0 σ → K31 x1 x2 x3 x4 σ → K31' x1 x2 x3 x4 σ) {K45 K45' : Int → Int → Int → Int → Int → St → Prop} (hK45 : ∀ (x1 : Int) (x2 : Int) (x3 : Int) (x4 : Int) (x5 : Int) (σ : St), Fr S_X12_holds σ0 σ → K45 x1 x2 x3 x4 x5 σ → K45' x1 x2 x3 x4 x5 σ) {K94 K94' : Int → Int → Int → Int → Int → Int → St → Prop} (hK94 : ∀ (x1 : Int) (x2 : Int) (x3 : Int) (x4 : Int) (x5 : Int) (x6 : Int) (σ : St), Fr S_X12_holds σ0 σ → K94 x1 x2 x3 x4 x5 x6 σ → K94' x1 x2 x3 x4 x5 x6 σ) {x1 x2 x3 x4 x5 x6 : Int} {σ : St} (f0 : Fr S_X12_holds σ0 σ) (h : wp_X12_holds_b135 Q K31 K45 K94 x1 x2 x3 x4 x5 x6 σ) : wp_X12_holds_b135 Q' K31' K45' K94' x1 x2 x3 x4 x5 x6 σ := by
  unfold wp_X12_holds_b135 at h ⊢
  intro v7 ev7; replace h := h v7 ev7
  exact hK94 _ _ _ _ _ _ _ f0 h
set_option maxHeartbeats 1000000 in
theorem mf_X12_holds_b141 {Q Q' : Int → St → Prop} {σ0 : St} (hq : ∀ (r : Int) (σ1 : St), Q r σ1 → Fr S_X12_holds σ0 σ1 → Q' r σ1) {K31 K31' : Int → Int → Int → Int → St → Prop} (hK31 : ∀ (x1 : Int) (x2 : Int) (x3 : Int) (x4 : Int) (σ : St), Fr S_X12_holds σ0 σ → K31 x1 x2 x3 x4 σ → K31' x1 x2 x3 x4 σ) {K45 K45' : Int → Int → Int → Int → Int → St → Prop} (hK45 : ∀ (x1 : Int) (x2 : Int) (x3 : Int) (x4 : Int) (x5 : Int) (σ : St), Fr S_X12_holds σ0 σ → K45 x1 x2 x3 x4 x5 σ → K45' x1 x2 x3 x4 x5 σ) {x1 x2 x3 x4 x5 : Int} {σ : St} (f0 : Fr S_X12_holds σ0 σ) (h : wp_X12_holds_b141 Q K31 K45 x1 x2 x3 x4 x5 σ) : wp_X12_holds_b141 Q' K31' K45' x1 x2 x3 x4 x5 σ := by
  unfold wp_X12_holds_b141 at h ⊢
  intro v4 ev4; replace h := h v4 ev4
  exact hK45 _ _ _ _ _ _ f0 h
set_option maxHeartbeats 1000000 in
theorem mf_X12_holds_l94 {Q Q' : Int → St → Prop} {σ0 : St} (hq : ∀ (r : Int) (σ1 : St), Q r σ1 → Fr S_X12_holds σ0 σ1 → Q' r σ1) {K31 K31' : Int → Int → Int → Int → St → Prop} (hK31 : ∀ (x1 : Int) (x2 : Int) (x3 : Int) (x4 : Int) (σ : St), Fr S_X12_holds σ0 σ → K31 x1 x2 x3 x4 σ → K31' x1 x2 x3 x4 σ) {K45 K45' : Int → Int → Int → Int → Int → St → Prop} (hK45 : ∀ (x1 : Int) (x2 : Int) (x3 : Int) (x4 : Int) (x5 : Int) (σ : St), Fr S_X12_holds σ0 σ → K45 x1 x2 x3 x4 x5 σ → K45' x1 x2 x3 x4 x5 σ) : ∀ (n : Nat) (x1 : Int) (x2 : Int) (x3 : Int) (x4 : Int) (x5 : Int) (x6 : Int) (σ : St), Fr S_X12_holds σ0 σ → wp_X12_holds_l94 Q K31 K45 n x1 x2 x3 x4 x5 x6 σ → wp_X12_holds_l94 Q' K31' K45' n x1 x2 x3 x4 x5 x6 σ := by
  intro n
  induction n with
  | zero => intro _ _ _ _ _ _ _ _ h; exact h.elim
  | succ n ih =>
    intro x1 x2 x3 x4 x5 x6 σ f0 h
    unfold wp_X12_holds_l94 at h ⊢
    refine ⟨fun hc => ?_, fun hc => ?_⟩
    · replace h := h.1 hc
      exact mf_X12_holds_b141 hq hK31 hK45 f0 h
    · replace h := h.2 hc
      refine ⟨fun hc => ?_, fun hc => ?_⟩
      · replace h := h.1 hc
        exact mf_X12_holds_b141 hq hK31 hK45 f0 h
      · replace h := h.2 hc
        refine ⟨fun hc => ?_, fun hc => ?_⟩
        · replace h := h.1 hc
          exact mf_X12_holds_b135 hq hK31 hK45 ih f0 h
        · replace h := h.2 hc
          refine mf_X12_keepsThree (fun r5 σ6 h gσ6 => ?_) Fr.rf h
          have fσ6 : Fr S_X12_holds σ0 σ6 := f0.tr gσ6 (mkS_sub (by decide) (by decide))
          refine ⟨fun hc => ?_, fun hc => ?_⟩
          · replace h := h.1 hc
            exact mf_X12_holds_b135 hq hK31 hK45 ih fσ6 h
          · replace h := h.2 hc
            exact hq _ _ h fσ6
set_option maxHeartbeats 1000000 in
theorem mf_X12_holds_b91 {Q Q' : Int → St → Prop} {σ0 : St} (hq : ∀ (r : Int) (σ1 : St), Q r σ1 → Fr S_X12_holds σ0 σ1 → Q' r σ1) {K31 K31' : Int → Int → Int → Int → St → Prop} (hK31 : ∀ (x1 : Int) (x2 : Int) (x3 : Int) (x4 : Int) (σ : St), Fr S_X12_holds σ0 σ → K31 x1 x2 x3 x4 σ → K31' x1 x2 x3 x4 σ) {K45 K45' : Int → Int → Int → Int → Int → St → Prop} (hK45 : ∀ (x1 : Int) (x2 : Int) (x3 : Int) (x4 : Int) (x5 : Int) (σ : St), Fr S_X12_holds σ0 σ → K45 x1 x2 x3 x4 x5 σ → K45' x1 x2 x3 x4 x5 σ) {x1 x2 x3 x4 x5 : Int} {σ : St} (f0 : Fr S_X12_holds σ0 σ) (h : wp_X12_holds_b91 Q K31 K45 x1 x2 x3 x4 x5 σ) : wp_X12_holds_b91 Q' K31' K45' x1 x2 x3 x4 x5 σ := by
  unfold wp_X12_holds_b91 at h ⊢
  exact mf_X12_holds_l94 hq hK31 hK45 bigN _ _ _ _ _ _ _ f0 h
set_option maxHeartbeats 1000000 in
theorem mf_X12_holds_l45 {Q Q' : Int → St → Prop} {σ0 : St} (hq : ∀ (r : Int) (σ1 : St), Q r σ1 → Fr S_X12_holds σ0 σ1 → Q' r σ1) {K31 K31' : Int → Int → Int → Int → St → Prop} (hK31 : ∀ (x1 : Int) (x2 : Int) (x3 : Int) (x4 : Int) (σ : St), Fr S_X12_holds σ0 σ → K31 x1 x2 x3 x4 σ → K31' x1 x2 x3 x4 σ) : ∀ (n : Nat) (x1 : Int) (x2 : Int) (x3 : Int) (x4 : Int) (x5 : Int) (σ : St), Fr S_X12_holds σ0 σ → wp_X12_holds_l45 Q K31 n x1 x2 x3 x4 x5 σ → wp_X12_holds_l45 Q' K31' n x1 x2 x3 x4 x5 σ := by
  intro n
  induction n with
  | zero => intro _ _ _ _ _ _ _ h; exact h.elim
  | succ n ih =>
    intro x1 x2 x3 x4 x5 σ f0 h
    unfold wp_X12_holds_l45 at h ⊢
    refine ⟨fun hc => ?_, fun hc => ?_⟩
    · replace h := h.1 hc
      intro v1 ev1; replace h := h v1 ev1
      exact hK31 _ _ _ _ _ f0 h
    · replace h := h.2 hc
      refine ⟨fun hc => ?_, fun hc => ?_⟩
      · replace h := h.1 hc
        refine ⟨fun hc => ?_, fun hc => ?_⟩
        · replace h := h.1 hc
          exact mf_X12_holds_b91 hq hK31 ih f0 h
        · replace h := h.2 hc
          refine mf_X12_keeps (fun r2 σ3 h gσ3 => ?_) Fr.rf h
          have fσ3 : Fr S_X12_holds σ0 σ3 := f0.tr gσ3 (mkS_sub (by decide) (by decide))
          refine ⟨fun hc => ?_, fun hc => ?_⟩
          · replace h := h.1 hc
            exact mf_X12_holds_b91 hq hK31 ih fσ3 h
          · replace h := h.2 hc
            exact hq _ _ h fσ3
      · replace h := h.2 hc
        exact mf_X12_holds_b141 hq hK31 ih f0 h
set_option maxHeartbeats 1000000 in
theorem mf_X12_holds_l31 {Q Q' : Int → St → Prop} {σ0 : St} (hq : ∀ (r : Int) (σ1 : St), Q r σ1 → Fr S_X12_holds σ0 σ1 → Q' r σ1) : ∀ (n : Nat) (x1 : Int) (x2 : Int) (x3 : Int) (x4 : Int) (σ : St), Fr S_X12_holds σ0 σ → wp_X12_holds_l31 Q n x1 x2 x3 x4 σ → wp_X12_holds_l31 Q' n x1 x2 x3 x4 σ := by
  intro n
  induction n with
  | zero => intro _ _ _ _ _ _ h; exact h.elim
  | succ n ih =>
    intro x1 x2 x3 x4 σ f0 h
    unfold wp_X12_holds_l31 at h ⊢
    refine ⟨fun hc => ?_, fun hc => ?_⟩
    · replace h := h.1 hc
      exact hq _ _ h f0
    · replace h := h.2 hc
      exact mf_X12_holds_l45 hq ih bigN _ _ _ _ _ _ f0 h
set_option maxHeartbeats 1000000 in
theorem mf_X12_holds_b27 {Q Q' : Int → St → Prop} {σ0 : St} (hq : ∀ (r : Int) (σ1 : St), Q r σ1 → Fr S_X12_holds σ0 σ1 → Q' r σ1) {x1 x2 s0 : Int} {σ : St} (f0 : Fr S_X12_holds σ0 σ) (h : wp_X12_holds_b27 Q x1 x2 s0 σ) : wp_X12_holds_b27 Q' x1 x2 s0 σ := by
  unfold wp_X12_holds_b27 at h ⊢
  exact mf_X12_holds_l31 hq bigN _ _ _ _ _ f0 h
set_option maxHeartbeats 1000000 in
theorem mf_X12_holds_b22 {Q Q' : Int → St → Prop} {σ0 : St} (hq : ∀ (r : Int) (σ1 : St), Q r σ1 → Fr S_X12_holds σ0 σ1 → Q' r σ1) {x1 x2 : Int} {σ : St} (f0 : Fr S_X12_holds σ0 σ) (h : wp_X12_holds_b22 Q x1 x2 σ) : wp_X12_holds_b22 Q' x1 x2 σ := by
  unfold wp_X12_holds_b22 at h ⊢
  exact mf_X12_holds_b27 hq f0 h
set_option maxHeartbeats 1000000 in
theorem mf_X12_holds {Q Q' : Int → St → Prop} {σ0 : St} (hq : ∀ (r : Int) (σ1 : St), Q r σ1 → Fr S_X12_holds σ0 σ1 → Q' r σ1) {x1 x2 : Int} {σ : St} (f0 : Fr S_X12_holds σ0 σ) (h : wp_X12_holds x1 x2 σ Q) : wp_X12_holds x1 x2 σ Q' := by
  unfold wp_X12_holds at h ⊢
  refine ⟨fun hc => ?_, fun hc => ?_⟩
  · replace h := h.1 hc
    exact mf_X12_holds_b22 hq f0 h
  · replace h := h.2 hc
    refine ⟨fun hc => ?_, fun hc => ?_⟩
    · replace h := h.1 hc
      exact mf_X12_holds_b22 hq f0 h
    · replace h := h.2 hc
      refine ⟨fun hc => ?_, fun hc => ?_⟩
      · replace h := h.1 hc
        exact mf_X12_holds_b22 hq f0 h
      · replace h := h.2 hc
        refine ⟨fun hc => ?_, fun hc => ?_⟩
        · replace h := h.1 hc
          exact mf_X12_holds_b27 hq f0 h
        · replace h := h.2 hc
          exact mf_X12_holds_b22 hq f0 h
set_option maxHeartbeats 1000000 in
theorem mf_X12_laws_b59 {Q Q' : Int → St → Prop} {σ0 : St} (hq : ∀ (r : Int) (σ1 : St), Q r σ1 → Fr S_X12_laws σ0 σ1 → Q' r σ1) {K30 K30' : Int → Int → St → Prop} (hK30 : ∀ (x1 : Int) (x2 : Int) (σ : St), Fr S_X12_laws σ0 σ → K30 x1 x2 σ → K30' x1 x2 σ) {x2 s0 s1 : Int} {σ : St} (f0 : Fr S_X12_laws σ0 σ) (h : wp_X12_laws_b59 Q K30 x2 s0 s1 σ) : wp_X12_laws_b59 Q' K30' x2 s0 s1 σ := by
  unfold wp_X12_laws_b59 at h ⊢
  intro v7 ev7; replace h := h v7 ev7
  intro v8 ev8; replace h := h v8 ev8
  exact hK30 _ _ _ f0 h
set_option maxHeartbeats 1000000 in
theorem mf_X12_laws_l92 {Q Q' : Int → St → Prop} {σ0 : St} (hq : ∀ (r : Int) (σ1 : St), Q r σ1 → Fr S_X12_laws σ0 σ1 → Q' r σ1) {K69 K69' : Int → Int → St → Prop} (hK69 : ∀ (x1 : Int) (x2 : Int) (σ : St), Fr S_X12_laws σ0 σ → K69 x1 x2 σ → K69' x1 x2 σ) {K81 K81' : Int → Int → Int → St → Prop} (hK81 : ∀ (x1 : Int) (x2 : Int) (x3 : Int) (σ : St), Fr S_X12_laws σ0 σ → K81 x1 x2 x3 σ → K81' x1 x2 x3 σ) : ∀ (n : Nat) (x1 : Int) (x2 : Int) (x3 : Int) (x4 : Int) (σ : St), Fr S_X12_laws σ0 σ → wp_X12_laws_l92 Q K69 K81 n x1 x2 x3 x4 σ → wp_X12_laws_l92 Q' K69' K81' n x1 x2 x3 x4 σ := by
  intro n
  induction n with
  | zero => intro _ _ _ _ _ _ h; exact h.elim
  | succ n ih =>
    intro x1 x2 x3 x4 σ f0 h
    unfold wp_X12_laws_l92 at h ⊢
    refine ⟨fun hc => ?_, fun hc => ?_⟩
    · replace h := h.1 hc
      intro v14 ev14; replace h := h v14 ev14
      exact hK81 _ _ _ _ f0 h
    · replace h := h.2 hc
      refine mf_X12_item (fun r15 σ16 h gσ16 => ?_) Fr.rf h
      have fσ16 : Fr S_X12_laws σ0 σ16 := f0.tr gσ16 (mkS_sub (by decide) (by decide))
      refine ⟨h.1, ?_⟩; replace h := h.2
      intro v17 ev17; replace h := h v17 ev17
      intro v18 ev18; replace h := h v18 ev18
      exact ih _ _ _ _ _ fσ16 h
set_option maxHeartbeats 1000000 in
theorem mf_X12_laws_l81 {Q Q' : Int → St → Prop} {σ0 : St} (hq : ∀ (r : Int) (σ1 : St), Q r σ1 → Fr S_X12_laws σ0 σ1 → Q' r σ1) {K69 K69' : Int → Int → St → Prop} (hK69 : ∀ (x1 : Int) (x2 : Int) (σ : St), Fr S_X12_laws σ0 σ → K69 x1 x2 σ → K69' x1 x2 σ) : ∀ (n : Nat) (x1 : Int) (x2 : Int) (x3 : Int) (σ : St), Fr S_X12_laws σ0 σ → wp_X12_laws_l81 Q K69 n x1 x2 x3 σ → wp_X12_laws_l81 Q' K69' n x1 x2 x3 σ := by
  intro n
  induction n with
  | zero => intro _ _ _ _ _ h; exact h.elim
  | succ n ih =>
    intro x1 x2 x3 σ f0 h
    unfold wp_X12_laws_l81 at h ⊢
    refine ⟨fun hc => ?_, fun hc => ?_⟩
    · replace h := h.1 hc
      intro v11 ev11; replace h := h v11 ev11
      exact hK69 _ _ _ f0 h
    · replace h := h.2 hc
      exact mf_X12_laws_l92 hq hK69 ih bigN _ _ _ _ _ f0 h
set_option maxHeartbeats 1000000 in
theorem mf_X12_laws_b161 {Q Q' : Int → St → Prop} {σ0 : St} (hq : ∀ (r : Int) (σ1 : St), Q r σ1 → Fr S_X12_laws σ0 σ1 → Q' r σ1) {K138 K138' : Int → Int → Int → St → Prop} (hK138 : ∀ (x1 : Int) (x2 : Int) (x3 : Int) (σ : St), Fr S_X12_laws σ0 σ → K138 x1 x2 x3 σ → K138' x1 x2 x3 σ) {x1 x3 s0 s1 : Int} {σ : St} (f0 : Fr S_X12_laws σ0 σ) (h : wp_X12_laws_b161 Q K138 x1 x3 s0 s1 σ) : wp_X12_laws_b161 Q' K138' x1 x3 s0 s1 σ := by
  unfold wp_X12_laws_b161 at h ⊢
  intro v12 ev12; replace h := h v12 ev12
  intro v13 ev13; replace h := h v13 ev13
  exact hK138 _ _ _ _ f0 h
set_option maxHeartbeats 1000000 in
theorem mf_X12_laws_l138 {Q Q' : Int → St → Prop} {σ0 : St} (hq : ∀ (r : Int) (σ1 : St), Q r σ1 → Fr S_X12_laws σ0 σ1 → Q' r σ1) : ∀ (n : Nat) (x1 : Int) (x2 : Int) (x3 : Int) (σ : St), Fr S_X12_laws σ0 σ → wp_X12_laws_l138 Q n x1 x2 x3 σ → wp_X12_laws_l138 Q' n x1 x2 x3 σ := by
  intro n
  induction n with
  | zero => intro _ _ _ _ _ h; exact h.elim
  | succ n ih =>
    intro x1 x2 x3 σ f0 h
    unfold wp_X12_laws_l138 at h ⊢
    refine ⟨fun hc => ?_, fun hc => ?_⟩
    · replace h := h.1 hc
      exact hq _ _ h f0
    · replace h := h.2 hc
      refine mf_X12_holds (fun r9 σ10 h gσ10 => ?_) Fr.rf h
      have fσ10 : Fr S_X12_laws σ0 σ10 := f0.tr gσ10 (mkS_sub (by decide) (by decide))
      refine ⟨fun hc => ?_, fun hc => ?_⟩
      · replace h := h.1 hc
        exact mf_X12_laws_b161 hq ih fσ10 h
      · replace h := h.2 hc
        exact mf_X12_laws_b161 hq ih fσ10 h
set_option maxHeartbeats 1000000 in
theorem mf_X12_laws_l69 {Q Q' : Int → St → Prop} {σ0 : St} (hq : ∀ (r : Int) (σ1 : St), Q r σ1 → Fr S_X12_laws σ0 σ1 → Q' r σ1) : ∀ (n : Nat) (x1 : Int) (x2 : Int) (σ : St), Fr S_X12_laws σ0 σ → wp_X12_laws_l69 Q n x1 x2 σ → wp_X12_laws_l69 Q' n x1 x2 σ := by
  intro n
  induction n with
  | zero => intro _ _ _ _ h; exact h.elim
  | succ n ih =>
    intro x1 x2 σ f0 h
    unfold wp_X12_laws_l69 at h ⊢
    refine ⟨fun hc => ?_, fun hc => ?_⟩
    · replace h := h.1 hc
      exact mf_X12_laws_l138 hq bigN _ _ _ _ f0 h
    · replace h := h.2 hc
      intro v6 ev6; replace h := h v6 ev6
      exact mf_X12_laws_l81 hq ih bigN _ _ _ _ f0 h
set_option maxHeartbeats 1000000 in
theorem mf_X12_laws_l30 {Q Q' : Int → St → Prop} {σ0 : St} (hq : ∀ (r : Int) (σ1 : St), Q r σ1 → Fr S_X12_laws σ0 σ1 → Q' r σ1) : ∀ (n : Nat) (x1 : Int) (x2 : Int) (σ : St), Fr S_X12_laws σ0 σ → wp_X12_laws_l30 Q n x1 x2 σ → wp_X12_laws_l30 Q' n x1 x2 σ := by
  intro n
  induction n with
  | zero => intro _ _ _ _ h; exact h.elim
  | succ n ih =>
    intro x1 x2 σ f0 h
    unfold wp_X12_laws_l30 at h ⊢
    refine ⟨fun hc => ?_, fun hc => ?_⟩
    · replace h := h.1 hc
      exact mf_X12_laws_l69 hq bigN _ _ _ f0 h
    · replace h := h.2 hc
      refine mf_X12_isIn (fun r4 σ5 h gσ5 => ?_) Fr.rf h
      have fσ5 : Fr S_X12_laws σ0 σ5 := f0.tr gσ5 (mkS_sub (by decide) (by decide))
      refine ⟨fun hc => ?_, fun hc => ?_⟩
      · replace h := h.1 hc
        exact mf_X12_laws_b59 hq ih fσ5 h
      · replace h := h.2 hc
        refine ⟨h.1, ?_⟩; replace h := h.2
        exact mf_X12_laws_b59 hq ih fσ5 h
set_option maxHeartbeats 1000000 in
theorem mf_X12_laws {Q Q' : Int → St → Prop} {σ0 : St} (hq : ∀ (r : Int) (σ1 : St), Q r σ1 → Fr S_X12_laws σ0 σ1 → Q' r σ1) {σ : St} (f0 : Fr S_X12_laws σ0 σ) (h : wp_X12_laws  σ Q) : wp_X12_laws  σ Q' := by
  unfold wp_X12_laws at h ⊢
  refine mf_X12_settles (fun r1 σ2 h gσ2 => ?_) Fr.rf h
  have fσ2 : Fr S_X12_laws σ0 σ2 := f0.tr gσ2 (mkS_sub (by decide) (by decide))
  refine ⟨fun hc => ?_, fun hc => ?_⟩
  · replace h := h.1 hc
    intro v3 ev3; replace h := h v3 ev3
    exact mf_X12_laws_l30 hq bigN _ _ _ fσ2 h
  · replace h := h.2 hc
    exact hq _ _ h fσ2
set_option maxHeartbeats 1000000 in
theorem mf_X12_isAt_b22 {Q Q' : Int → St → Prop} {σ0 : St} (hq : ∀ (r : Int) (σ1 : St), Q r σ1 → Fr S_X12_isAt σ0 σ1 → Q' r σ1) {σ : St} (f0 : Fr S_X12_isAt σ0 σ) (h : wp_X12_isAt_b22 Q  σ) : wp_X12_isAt_b22 Q'  σ := by
  unfold wp_X12_isAt_b22 at h ⊢
  exact hq _ _ h f0
set_option maxHeartbeats 1000000 in
theorem mf_X12_isAt {Q Q' : Int → St → Prop} {σ0 : St} (hq : ∀ (r : Int) (σ1 : St), Q r σ1 → Fr S_X12_isAt σ0 σ1 → Q' r σ1) {x1 x2 x3 x4 x5 x6 : Int} {σ : St} (f0 : Fr S_X12_isAt σ0 σ) (h : wp_X12_isAt x1 x2 x3 x4 x5 x6 σ Q) : wp_X12_isAt x1 x2 x3 x4 x5 x6 σ Q' := by
  unfold wp_X12_isAt at h ⊢
  refine ⟨fun hc => ?_, fun hc => ?_⟩
  · replace h := h.1 hc
    exact mf_X12_isAt_b22 hq f0 h
  · replace h := h.2 hc
    refine ⟨fun hc => ?_, fun hc => ?_⟩
    · replace h := h.1 hc
      exact mf_X12_isAt_b22 hq f0 h
    · replace h := h.2 hc
      refine ⟨fun hc => ?_, fun hc => ?_⟩
      · replace h := h.1 hc
        exact mf_X12_isAt_b22 hq f0 h
      · replace h := h.2 hc
        exact hq _ _ h f0
set_option maxHeartbeats 1000000 in
theorem mf_X12_casesWith_b211 {Q Q' : Int → St → Prop} {σ0 : St} (hq : ∀ (r : Int) (σ1 : St), Q r σ1 → Fr S_X12_casesWith σ0 σ1 → Q' r σ1) {K6 K6' : Int → Int → Int → Int → Int → St → Prop} (hK6 : ∀ (x1 : Int) (x2 : Int) (x3 : Int) (x4 : Int) (x5 : Int) (σ : St), Fr S_X12_casesWith σ0 σ → K6 x1 x2 x3 x4 x5 σ → K6' x1 x2 x3 x4 x5 σ) {K72 K72' : Int → Int → Int → Int → Int → Int → St → Prop} (hK72 : ∀ (x1 : Int) (x2 : Int) (x3 : Int) (x4 : Int) (x5 : Int) (x6 : Int) (σ : St), Fr S_X12_casesWith σ0 σ → K72 x1 x2 x3 x4 x5 x6 σ → K72' x1 x2 x3 x4 x5 x6 σ) {K98 K98' : Int → Int → Int → Int → Int → Int → Int → St → Prop} (hK98 : ∀ (x1 : Int) (x2 : Int) (x3 : Int) (x4 : Int) (x5 : Int) (x6 : Int) (x7 : Int) (σ : St), Fr S_X12_casesWith σ0 σ → K98 x1 x2 x3 x4 x5 x6 x7 σ → K98' x1 x2 x3 x4 x5 x6 x7 σ) {K113 K113' : Int → Int → Int → Int → Int → Int → Int → Int → St → Prop} (hK113 : ∀ (x1 : Int) (x2 : Int) (x3 : Int) (x4 : Int) (x5 : Int) (x6 : Int) (x7 : Int) (x8 : Int) (σ : St), Fr S_X12_casesWith σ0 σ → K113 x1 x2 x3 x4 x5 x6 x7 x8 σ → K113' x1 x2 x3 x4 x5 x6 x7 x8 σ) {x1 x2 x3 x4 x5 x6 x7 x8 : Int} {σ : St} (f0 : Fr S_X12_casesWith σ0 σ) (h : wp_X12_casesWith_b211 Q K6 K72 K98 K113 x1 x2 x3 x4 x5 x6 x7 x8 σ) : wp_X12_casesWith_b211 Q' K6' K72' K98' K113' x1 x2 x3 x4 x5 x6 x7 x8 σ := by
  unfold wp_X12_casesWith_b211 at h ⊢
  intro v19 ev19; replace h := h v19 ev19
  exact hK113 _ _ _ _ _ _ _ _ _ f0 h
set_option maxHeartbeats 1000000 in
theorem mf_X12_casesWith_b208 {Q Q' : Int → St → Prop} {σ0 : St} (hq : ∀ (r : Int) (σ1 : St), Q r σ1 → Fr S_X12_casesWith σ0 σ1 → Q' r σ1) {K6 K6' : Int → Int → Int → Int → Int → St → Prop} (hK6 : ∀ (x1 : Int) (x2 : Int) (x3 : Int) (x4 : Int) (x5 : Int) (σ : St), Fr S_X12_casesWith σ0 σ → K6 x1 x2 x3 x4 x5 σ → K6' x1 x2 x3 x4 x5 σ) {K72 K72' : Int → Int → Int → Int → Int → Int → St → Prop} (hK72 : ∀ (x1 : Int) (x2 : Int) (x3 : Int) (x4 : Int) (x5 : Int) (x6 : Int) (σ : St), Fr S_X12_casesWith σ0 σ → K72 x1 x2 x3 x4 x5 x6 σ → K72' x1 x2 x3 x4 x5 x6 σ) {K98 K98' : Int → Int → Int → Int → Int → Int → Int → St → Prop} (hK98 : ∀ (x1 : Int) (x2 : Int) (x3 : Int) (x4 : Int) (x5 : Int) (x6 : Int) (x7 : Int) (σ : St), Fr S_X12_casesWith σ0 σ → K98 x1 x2 x3 x4 x5 x6 x7 σ → K98' x1 x2 x3 x4 x5 x6 x7 σ) {K113 K113' : Int → Int → Int → Int → Int → Int → Int → Int → St → Prop} (hK113 : ∀ (x1 : Int) (x2 : Int) (x3 : Int) (x4 : Int) (x5 : Int) (x6 : Int) (x7 : Int) (x8 : Int) (σ : St), Fr S_X12_casesWith σ0 σ → K113 x1 x2 x3 x4 x5 x6 x7 x8 σ → K113' x1 x2 x3 x4 x5 x6 x7 x8 σ) {x1 x2 x3 x5 x6 x7 x8 s0 s1 : Int} {σ : St} (f0 : Fr S_X12_casesWith σ0 σ) (h : wp_X12_casesWith_b208 Q K6 K72 K98 K113 x1 x2 x3 x5 x6 x7 x8 s0 s1 σ) : wp_X12_casesWith_b208 Q' K6' K72' K98' K113' x1 x2 x3 x5 x6 x7 x8 s0 s1 σ := by
  unfold wp_X12_casesWith_b208 at h ⊢
  intro v20 ev20; replace h := h v20 ev20
  exact mf_X12_casesWith_b211 hq hK6 hK72 hK98 hK113 f0 h
set_option maxHeartbeats 1000000 in
theorem mf_X12_casesWith_b207 {Q Q' : Int → St → Prop} {σ0 : St} (hq : ∀ (r : Int) (σ1 : St), Q r σ1 → Fr S_X12_casesWith σ0 σ1 → Q' r σ1) {K6 K6' : Int → Int → Int → Int → Int → St → Prop} (hK6 : ∀ (x1 : Int) (x2 : Int) (x3 : Int) (x4 : Int) (x5 : Int) (σ : St), Fr S_X12_casesWith σ0 σ → K6 x1 x2 x3 x4 x5 σ → K6' x1 x2 x3 x4 x5 σ) {K72 K72' : Int → Int → Int → Int → Int → Int → St → Prop} (hK72 : ∀ (x1 : Int) (x2 : Int) (x3 : Int) (x4 : Int) (x5 : Int) (x6 : Int) (σ : St), Fr S_X12_casesWith σ0 σ → K72 x1 x2 x3 x4 x5 x6 σ → K72' x1 x2 x3 x4 x5 x6 σ) {K98 K98' : Int → Int → Int → Int → Int → Int → Int → St → Prop} (hK98 : ∀ (x1 : Int) (x2 : Int) (x3 : Int) (x4 : Int) (x5 : Int) (x6 : Int) (x7 : Int) (σ : St), Fr S_X12_casesWith σ0 σ → K98 x1 x2 x3 x4 x5 x6 x7 σ → K98' x1 x2 x3 x4 x5 x6 x7 σ) {K113 K113' : Int → Int → Int → Int → Int → Int → Int → Int → St → Prop} (hK113 : ∀ (x1 : Int) (x2 : Int) (x3 : Int) (x4 : Int) (x5 : Int) (x6 : Int) (x7 : Int) (x8 : Int) (σ : St), Fr S_X12_casesWith σ0 σ → K113 x1 x2 x3 x4 x5 x6 x7 x8 σ → K113' x1 x2 x3 x4 x5 x6 x7 x8 σ) {x1 x2 x3 x5 x6 x7 x8 s0 : Int} {σ : St} (f0 : Fr S_X12_casesWith σ0 σ) (h : wp_X12_casesWith_b207 Q K6 K72 K98 K113 x1 x2 x3 x5 x6 x7 x8 s0 σ) : wp_X12_casesWith_b207 Q' K6' K72' K98' K113' x1 x2 x3 x5 x6 x7 x8 s0 σ := by
  unfold wp_X12_casesWith_b207 at h ⊢
  exact mf_X12_casesWith_b208 hq hK6 hK72 hK98 hK113 f0 h
set_option maxHeartbeats 1000000 in
theorem mf_X12_casesWith_b165 {Q Q' : Int → St → Prop} {σ0 : St} (hq : ∀ (r : Int) (σ1 : St), Q r σ1 → Fr S_X12_casesWith σ0 σ1 → Q' r σ1) {K6 K6' : Int → Int → Int → Int → Int → St → Prop} (hK6 : ∀ (x1 : Int) (x2 : Int) (x3 : Int) (x4 : Int) (x5 : Int) (σ : St), Fr S_X12_casesWith σ0 σ → K6 x1 x2 x3 x4 x5 σ → K6' x1 x2 x3 x4 x5 σ) {K72 K72' : Int → Int → Int → Int → Int → Int → St → Prop} (hK72 : ∀ (x1 : Int) (x2 : Int) (x3 : Int) (x4 : Int) (x5 : Int) (x6 : Int) (σ : St), Fr S_X12_casesWith σ0 σ → K72 x1 x2 x3 x4 x5 x6 σ → K72' x1 x2 x3 x4 x5 x6 σ) {K98 K98' : Int → Int → Int → Int → Int → Int → Int → St → Prop} (hK98 : ∀ (x1 : Int) (x2 : Int) (x3 : Int) (x4 : Int) (x5 : Int) (x6 : Int) (x7 : Int) (σ : St), Fr S_X12_casesWith σ0 σ → K98 x1 x2 x3 x4 x5 x6 x7 σ → K98' x1 x2 x3 x4 x5 x6 x7 σ) {K113 K113' : Int → Int → Int → Int → Int → Int → Int → Int → St → Prop} (hK113 : ∀ (x1 : Int) (x2 : Int) (x3 : Int) (x4 : Int) (x5 : Int) (x6 : Int) (x7 : Int) (x8 : Int) (σ : St), Fr S_X12_casesWith σ0 σ → K113 x1 x2 x3 x4 x5 x6 x7 x8 σ → K113' x1 x2 x3 x4 x5 x6 x7 x8 σ) {x1 x2 x3 x4 x5 x6 x7 x8 : Int} {σ : St} (f0 : Fr S_X12_casesWith σ0 σ) (h : wp_X12_casesWith_b165 Q K6 K72 K98 K113 x1 x2 x3 x4 x5 x6 x7 x8 σ) : wp_X12_casesWith_b165 Q' K6' K72' K98' K113' x1 x2 x3 x4 x5 x6 x7 x8 σ := by
  unfold wp_X12_casesWith_b165 at h ⊢
  refine ⟨h.1, ?_⟩; replace h := h.2
  refine mf_X12_fits (fun r15 σ16 h gσ16 => ?_) Fr.rf h
  have fσ16 : Fr S_X12_casesWith σ0 σ16 := f0.tr gσ16 (mkS_sub (by decide) (by decide))
  refine ⟨fun hc => ?_, fun hc => ?_⟩
  · replace h := h.1 hc
    exact mf_X12_casesWith_b207 hq hK6 hK72 hK98 hK113 fσ16 h
  · replace h := h.2 hc
    refine ⟨h.1, ?_⟩; replace h := h.2
    refine mf_X12_fits (fun r17 σ18 h gσ18 => ?_) Fr.rf h
    have fσ18 : Fr S_X12_casesWith σ0 σ18 := fσ16.tr gσ18 (mkS_sub (by decide) (by decide))
    refine ⟨fun hc => ?_, fun hc => ?_⟩
    · replace h := h.1 hc
      exact mf_X12_casesWith_b207 hq hK6 hK72 hK98 hK113 fσ18 h
    · replace h := h.2 hc
      exact mf_X12_casesWith_b208 hq hK6 hK72 hK98 hK113 fσ18 h
set_option maxHeartbeats 1000000 in
theorem mf_X12_casesWith_l113 {Q Q' : Int → St → Prop} {σ0 : St} (hq : ∀ (r : Int) (σ1 : St), Q r σ1 → Fr S_X12_casesWith σ0 σ1 → Q' r σ1) {K6 K6' : Int → Int → Int → Int → Int → St → Prop} (hK6 : ∀ (x1 : Int) (x2 : Int) (x3 : Int) (x4 : Int) (x5 : Int) (σ : St), Fr S_X12_casesWith σ0 σ → K6 x1 x2 x3 x4 x5 σ → K6' x1 x2 x3 x4 x5 σ) {K72 K72' : Int → Int → Int → Int → Int → Int → St → Prop} (hK72 : ∀ (x1 : Int) (x2 : Int) (x3 : Int) (x4 : Int) (x5 : Int) (x6 : Int) (σ : St), Fr S_X12_casesWith σ0 σ → K72 x1 x2 x3 x4 x5 x6 σ → K72' x1 x2 x3 x4 x5 x6 σ) {K98 K98' : Int → Int → Int → Int → Int → Int → Int → St → Prop} (hK98 : ∀ (x1 : Int) (x2 : Int) (x3 : Int) (x4 : Int) (x5 : Int) (x6 : Int) (x7 : Int) (σ : St), Fr S_X12_casesWith σ0 σ → K98 x1 x2 x3 x4 x5 x6 x7 σ → K98' x1 x2 x3 x4 x5 x6 x7 σ) : ∀ (n : Nat) (x1 : Int) (x2 : Int) (x3 : Int) (x4 : Int) (x5 : Int) (x6 : Int) (x7 : Int) (x8 : Int) (σ : St), Fr S_X12_casesWith σ0 σ → wp_X12_casesWith_l113 Q K6 K72 K98 n x1 x2 x3 x4 x5 x6 x7 x8 σ → wp_X12_casesWith_l113 Q' K6' K72' K98' n x1 x2 x3 x4 x5 x6 x7 x8 σ := by
  intro n
  induction n with
  | zero => intro _ _ _ _ _ _ _ _ _ _ h; exact h.elim
  | succ n ih =>
    intro x1 x2 x3 x4 x5 x6 x7 x8 σ f0 h
    unfold wp_X12_casesWith_l113 at h ⊢
    refine ⟨fun hc => ?_, fun hc => ?_⟩
    · replace h := h.1 hc
      intro v10 ev10; replace h := h v10 ev10
      exact hK98 _ _ _ _ _ _ _ _ f0 h
    · replace h := h.2 hc
      refine ⟨h.1, ?_⟩; replace h := h.2
      refine mf_X12_isAt (fun r11 σ12 h gσ12 => ?_) Fr.rf h
      have fσ12 : Fr S_X12_casesWith σ0 σ12 := f0.tr gσ12 (mkS_sub (by decide) (by decide))
      refine ⟨fun hc => ?_, fun hc => ?_⟩
      · replace h := h.1 hc
        exact mf_X12_casesWith_b165 hq hK6 hK72 hK98 ih fσ12 h
      · replace h := h.2 hc
        refine ⟨h.1, ?_⟩; replace h := h.2
        refine mf_X12_isAt (fun r13 σ14 h gσ14 => ?_) Fr.rf h
        have fσ14 : Fr S_X12_casesWith σ0 σ14 := fσ12.tr gσ14 (mkS_sub (by decide) (by decide))
        refine ⟨fun hc => ?_, fun hc => ?_⟩
        · replace h := h.1 hc
          exact mf_X12_casesWith_b165 hq hK6 hK72 hK98 ih fσ14 h
        · replace h := h.2 hc
          exact mf_X12_casesWith_b211 hq hK6 hK72 hK98 ih fσ14 h
set_option maxHeartbeats 1000000 in
theorem mf_X12_casesWith_l98 {Q Q' : Int → St → Prop} {σ0 : St} (hq : ∀ (r : Int) (σ1 : St), Q r σ1 → Fr S_X12_casesWith σ0 σ1 → Q' r σ1) {K6 K6' : Int → Int → Int → Int → Int → St → Prop} (hK6 : ∀ (x1 : Int) (x2 : Int) (x3 : Int) (x4 : Int) (x5 : Int) (σ : St), Fr S_X12_casesWith σ0 σ → K6 x1 x2 x3 x4 x5 σ → K6' x1 x2 x3 x4 x5 σ) {K72 K72' : Int → Int → Int → Int → Int → Int → St → Prop} (hK72 : ∀ (x1 : Int) (x2 : Int) (x3 : Int) (x4 : Int) (x5 : Int) (x6 : Int) (σ : St), Fr S_X12_casesWith σ0 σ → K72 x1 x2 x3 x4 x5 x6 σ → K72' x1 x2 x3 x4 x5 x6 σ) : ∀ (n : Nat) (x1 : Int) (x2 : Int) (x3 : Int) (x4 : Int) (x5 : Int) (x6 : Int) (x7 : Int) (σ : St), Fr S_X12_casesWith σ0 σ → wp_X12_casesWith_l98 Q K6 K72 n x1 x2 x3 x4 x5 x6 x7 σ → wp_X12_casesWith_l98 Q' K6' K72' n x1 x2 x3 x4 x5 x6 x7 σ := by
  intro n
  induction n with
  | zero => intro _ _ _ _ _ _ _ _ _ h; exact h.elim
  | succ n ih =>
    intro x1 x2 x3 x4 x5 x6 x7 σ f0 h
    unfold wp_X12_casesWith_l98 at h ⊢
    refine ⟨fun hc => ?_, fun hc => ?_⟩
    · replace h := h.1 hc
      intro v8 ev8; replace h := h v8 ev8
      exact hK72 _ _ _ _ _ _ _ f0 h
    · replace h := h.2 hc
      intro v9 ev9; replace h := h v9 ev9
      exact mf_X12_casesWith_l113 hq hK6 hK72 ih bigN _ _ _ _ _ _ _ _ _ f0 h
set_option maxHeartbeats 1000000 in
theorem mf_X12_casesWith_b229 {Q Q' : Int → St → Prop} {σ0 : St} (hq : ∀ (r : Int) (σ1 : St), Q r σ1 → Fr S_X12_casesWith σ0 σ1 → Q' r σ1) {K6 K6' : Int → Int → Int → Int → Int → St → Prop} (hK6 : ∀ (x1 : Int) (x2 : Int) (x3 : Int) (x4 : Int) (x5 : Int) (σ : St), Fr S_X12_casesWith σ0 σ → K6 x1 x2 x3 x4 x5 σ → K6' x1 x2 x3 x4 x5 σ) {x1 x2 x3 x4 x5 : Int} {σ : St} (f0 : Fr S_X12_casesWith σ0 σ) (h : wp_X12_casesWith_b229 Q K6 x1 x2 x3 x4 x5 σ) : wp_X12_casesWith_b229 Q' K6' x1 x2 x3 x4 x5 σ := by
  unfold wp_X12_casesWith_b229 at h ⊢
  intro v6 ev6; replace h := h v6 ev6
  exact hK6 _ _ _ _ _ _ f0 h
set_option maxHeartbeats 1000000 in
theorem mf_X12_casesWith_l72 {Q Q' : Int → St → Prop} {σ0 : St} (hq : ∀ (r : Int) (σ1 : St), Q r σ1 → Fr S_X12_casesWith σ0 σ1 → Q' r σ1) {K6 K6' : Int → Int → Int → Int → Int → St → Prop} (hK6 : ∀ (x1 : Int) (x2 : Int) (x3 : Int) (x4 : Int) (x5 : Int) (σ : St), Fr S_X12_casesWith σ0 σ → K6 x1 x2 x3 x4 x5 σ → K6' x1 x2 x3 x4 x5 σ) : ∀ (n : Nat) (x1 : Int) (x2 : Int) (x3 : Int) (x4 : Int) (x5 : Int) (x6 : Int) (σ : St), Fr S_X12_casesWith σ0 σ → wp_X12_casesWith_l72 Q K6 n x1 x2 x3 x4 x5 x6 σ → wp_X12_casesWith_l72 Q' K6' n x1 x2 x3 x4 x5 x6 σ := by
  intro n
  induction n with
  | zero => intro _ _ _ _ _ _ _ _ h; exact h.elim
  | succ n ih =>
    intro x1 x2 x3 x4 x5 x6 σ f0 h
    unfold wp_X12_casesWith_l72 at h ⊢
    refine ⟨fun hc => ?_, fun hc => ?_⟩
    · replace h := h.1 hc
      exact mf_X12_casesWith_b229 hq hK6 f0 h
    · replace h := h.2 hc
      refine ⟨h.1, ?_⟩; replace h := h.2
      refine ⟨fun hc => ?_, fun hc => ?_⟩
      · replace h := h.1 hc
        exact mf_X12_casesWith_b229 hq hK6 f0 h
      · replace h := h.2 hc
        intro v7 ev7; replace h := h v7 ev7
        exact mf_X12_casesWith_l98 hq hK6 ih bigN _ _ _ _ _ _ _ _ f0 h
set_option maxHeartbeats 1000000 in
theorem mf_X12_casesWith_b69 {Q Q' : Int → St → Prop} {σ0 : St} (hq : ∀ (r : Int) (σ1 : St), Q r σ1 → Fr S_X12_casesWith σ0 σ1 → Q' r σ1) {K6 K6' : Int → Int → Int → Int → Int → St → Prop} (hK6 : ∀ (x1 : Int) (x2 : Int) (x3 : Int) (x4 : Int) (x5 : Int) (σ : St), Fr S_X12_casesWith σ0 σ → K6 x1 x2 x3 x4 x5 σ → K6' x1 x2 x3 x4 x5 σ) {x1 x2 x3 x4 x5 : Int} {σ : St} (f0 : Fr S_X12_casesWith σ0 σ) (h : wp_X12_casesWith_b69 Q K6 x1 x2 x3 x4 x5 σ) : wp_X12_casesWith_b69 Q' K6' x1 x2 x3 x4 x5 σ := by
  unfold wp_X12_casesWith_b69 at h ⊢
  exact mf_X12_casesWith_l72 hq hK6 bigN _ _ _ _ _ _ _ f0 h
set_option maxHeartbeats 1000000 in
theorem mf_X12_casesWith_b66 {Q Q' : Int → St → Prop} {σ0 : St} (hq : ∀ (r : Int) (σ1 : St), Q r σ1 → Fr S_X12_casesWith σ0 σ1 → Q' r σ1) {K6 K6' : Int → Int → Int → Int → Int → St → Prop} (hK6 : ∀ (x1 : Int) (x2 : Int) (x3 : Int) (x4 : Int) (x5 : Int) (σ : St), Fr S_X12_casesWith σ0 σ → K6 x1 x2 x3 x4 x5 σ → K6' x1 x2 x3 x4 x5 σ) {x1 x2 x3 x5 s0 s1 : Int} {σ : St} (f0 : Fr S_X12_casesWith σ0 σ) (h : wp_X12_casesWith_b66 Q K6 x1 x2 x3 x5 s0 s1 σ) : wp_X12_casesWith_b66 Q' K6' x1 x2 x3 x5 s0 s1 σ := by
  unfold wp_X12_casesWith_b66 at h ⊢
  intro v5 ev5; replace h := h v5 ev5
  exact mf_X12_casesWith_b69 hq hK6 f0 h
set_option maxHeartbeats 1000000 in
theorem mf_X12_casesWith_b65 {Q Q' : Int → St → Prop} {σ0 : St} (hq : ∀ (r : Int) (σ1 : St), Q r σ1 → Fr S_X12_casesWith σ0 σ1 → Q' r σ1) {K6 K6' : Int → Int → Int → Int → Int → St → Prop} (hK6 : ∀ (x1 : Int) (x2 : Int) (x3 : Int) (x4 : Int) (x5 : Int) (σ : St), Fr S_X12_casesWith σ0 σ → K6 x1 x2 x3 x4 x5 σ → K6' x1 x2 x3 x4 x5 σ) {x1 x2 x3 x5 s0 : Int} {σ : St} (f0 : Fr S_X12_casesWith σ0 σ) (h : wp_X12_casesWith_b65 Q K6 x1 x2 x3 x5 s0 σ) : wp_X12_casesWith_b65 Q' K6' x1 x2 x3 x5 s0 σ := by
  unfold wp_X12_casesWith_b65 at h ⊢
  exact mf_X12_casesWith_b66 hq hK6 f0 h
set_option maxHeartbeats 1000000 in
theorem mf_X12_casesWith_l6 {Q Q' : Int → St → Prop} {σ0 : St} (hq : ∀ (r : Int) (σ1 : St), Q r σ1 → Fr S_X12_casesWith σ0 σ1 → Q' r σ1) : ∀ (n : Nat) (x1 : Int) (x2 : Int) (x3 : Int) (x4 : Int) (x5 : Int) (σ : St), Fr S_X12_casesWith σ0 σ → wp_X12_casesWith_l6 Q n x1 x2 x3 x4 x5 σ → wp_X12_casesWith_l6 Q' n x1 x2 x3 x4 x5 σ := by
  intro n
  induction n with
  | zero => intro _ _ _ _ _ _ _ h; exact h.elim
  | succ n ih =>
    intro x1 x2 x3 x4 x5 σ f0 h
    unfold wp_X12_casesWith_l6 at h ⊢
    refine ⟨fun hc => ?_, fun hc => ?_⟩
    · replace h := h.1 hc
      exact hq _ _ h f0
    · replace h := h.2 hc
      refine mf_X12_isIn (fun r1 σ2 h gσ2 => ?_) Fr.rf h
      have fσ2 : Fr S_X12_casesWith σ0 σ2 := f0.tr gσ2 (mkS_sub (by decide) (by decide))
      refine ⟨fun hc => ?_, fun hc => ?_⟩
      · replace h := h.1 hc
        refine ⟨h.1, ?_⟩; replace h := h.2
        refine ⟨fun hc => ?_, fun hc => ?_⟩
        · replace h := h.1 hc
          exact mf_X12_casesWith_b69 hq ih fσ2 h
        · replace h := h.2 hc
          refine ⟨h.1, ?_⟩; replace h := h.2
          refine ⟨fun hc => ?_, fun hc => ?_⟩
          · replace h := h.1 hc
            exact mf_X12_casesWith_b65 hq ih fσ2 h
          · replace h := h.2 hc
            refine mf_X12_has (fun r3 σ4 h gσ4 => ?_) Fr.rf h
            have fσ4 : Fr S_X12_casesWith σ0 σ4 := fσ2.tr gσ4 (mkS_sub (by decide) (by decide))
            refine ⟨fun hc => ?_, fun hc => ?_⟩
            · replace h := h.1 hc
              exact mf_X12_casesWith_b65 hq ih fσ4 h
            · replace h := h.2 hc
              exact mf_X12_casesWith_b66 hq ih fσ4 h
      · replace h := h.2 hc
        exact mf_X12_casesWith_b229 hq ih fσ2 h
set_option maxHeartbeats 1000000 in
theorem mf_X12_casesWith {Q Q' : Int → St → Prop} {σ0 : St} (hq : ∀ (r : Int) (σ1 : St), Q r σ1 → Fr S_X12_casesWith σ0 σ1 → Q' r σ1) {x1 x2 x3 : Int} {σ : St} (f0 : Fr S_X12_casesWith σ0 σ) (h : wp_X12_casesWith x1 x2 x3 σ Q) : wp_X12_casesWith x1 x2 x3 σ Q' := by
  unfold wp_X12_casesWith at h ⊢
  exact mf_X12_casesWith_l6 hq bigN _ _ _ _ _ _ f0 h
set_option maxHeartbeats 1000000 in
theorem mf_X12_casesOf_b221 {Q Q' : Int → St → Prop} {σ0 : St} (hq : ∀ (r : Int) (σ1 : St), Q r σ1 → Fr S_X12_casesOf σ0 σ1 → Q' r σ1) {K6 K6' : Int → Int → Int → Int → Int → Int → St → Prop} (hK6 : ∀ (x1 : Int) (x2 : Int) (x3 : Int) (x4 : Int) (x5 : Int) (x6 : Int) (σ : St), Fr S_X12_casesOf σ0 σ → K6 x1 x2 x3 x4 x5 x6 σ → K6' x1 x2 x3 x4 x5 x6 σ) {K104 K104' : Int → Int → Int → Int → Int → Int → Int → St → Prop} (hK104 : ∀ (x1 : Int) (x2 : Int) (x3 : Int) (x4 : Int) (x5 : Int) (x6 : Int) (x7 : Int) (σ : St), Fr S_X12_casesOf σ0 σ → K104 x1 x2 x3 x4 x5 x6 x7 σ → K104' x1 x2 x3 x4 x5 x6 x7 σ) {x1 x2 x3 x4 x6 x7 s0 s1 : Int} {σ : St} (f0 : Fr S_X12_casesOf σ0 σ) (h : wp_X12_casesOf_b221 Q K6 K104 x1 x2 x3 x4 x6 x7 s0 s1 σ) : wp_X12_casesOf_b221 Q' K6' K104' x1 x2 x3 x4 x6 x7 s0 s1 σ := by
  unfold wp_X12_casesOf_b221 at h ⊢
  intro v18 ev18; replace h := h v18 ev18
  intro v19 ev19; replace h := h v19 ev19
  exact hK104 _ _ _ _ _ _ _ _ f0 h
set_option maxHeartbeats 1000000 in
theorem mf_X12_casesOf_b207 {Q Q' : Int → St → Prop} {σ0 : St} (hq : ∀ (r : Int) (σ1 : St), Q r σ1 → Fr S_X12_casesOf σ0 σ1 → Q' r σ1) {K6 K6' : Int → Int → Int → Int → Int → Int → St → Prop} (hK6 : ∀ (x1 : Int) (x2 : Int) (x3 : Int) (x4 : Int) (x5 : Int) (x6 : Int) (σ : St), Fr S_X12_casesOf σ0 σ → K6 x1 x2 x3 x4 x5 x6 σ → K6' x1 x2 x3 x4 x5 x6 σ) {K104 K104' : Int → Int → Int → Int → Int → Int → Int → St → Prop} (hK104 : ∀ (x1 : Int) (x2 : Int) (x3 : Int) (x4 : Int) (x5 : Int) (x6 : Int) (x7 : Int) (σ : St), Fr S_X12_casesOf σ0 σ → K104 x1 x2 x3 x4 x5 x6 x7 σ → K104' x1 x2 x3 x4 x5 x6 x7 σ) {x1 x2 x3 x4 x5 x6 x7 s0 : Int} {σ : St} (f0 : Fr S_X12_casesOf σ0 σ) (h : wp_X12_casesOf_b207 Q K6 K104 x1 x2 x3 x4 x5 x6 x7 s0 σ) : wp_X12_casesOf_b207 Q' K6' K104' x1 x2 x3 x4 x5 x6 x7 s0 σ := by
  unfold wp_X12_casesOf_b207 at h ⊢
  refine ⟨fun hc => ?_, fun hc => ?_⟩
  · replace h := h.1 hc
    exact mf_X12_casesOf_b221 hq hK6 hK104 f0 h
  · replace h := h.2 hc
    exact mf_X12_casesOf_b221 hq hK6 hK104 f0 h
set_option maxHeartbeats 1000000 in
theorem mf_X12_casesOf_b164 {Q Q' : Int → St → Prop} {σ0 : St} (hq : ∀ (r : Int) (σ1 : St), Q r σ1 → Fr S_X12_casesOf σ0 σ1 → Q' r σ1) {K6 K6' : Int → Int → Int → Int → Int → Int → St → Prop} (hK6 : ∀ (x1 : Int) (x2 : Int) (x3 : Int) (x4 : Int) (x5 : Int) (x6 : Int) (σ : St), Fr S_X12_casesOf σ0 σ → K6 x1 x2 x3 x4 x5 x6 σ → K6' x1 x2 x3 x4 x5 x6 σ) {K104 K104' : Int → Int → Int → Int → Int → Int → Int → St → Prop} (hK104 : ∀ (x1 : Int) (x2 : Int) (x3 : Int) (x4 : Int) (x5 : Int) (x6 : Int) (x7 : Int) (σ : St), Fr S_X12_casesOf σ0 σ → K104 x1 x2 x3 x4 x5 x6 x7 σ → K104' x1 x2 x3 x4 x5 x6 x7 σ) {x1 x2 x3 x4 x5 x6 x7 : Int} {σ : St} (f0 : Fr S_X12_casesOf σ0 σ) (h : wp_X12_casesOf_b164 Q K6 K104 x1 x2 x3 x4 x5 x6 x7 σ) : wp_X12_casesOf_b164 Q' K6' K104' x1 x2 x3 x4 x5 x6 x7 σ := by
  unfold wp_X12_casesOf_b164 at h ⊢
  exact mf_X12_casesOf_b207 hq hK6 hK104 f0 h
set_option maxHeartbeats 1000000 in
theorem mf_X12_casesOf_b206 {Q Q' : Int → St → Prop} {σ0 : St} (hq : ∀ (r : Int) (σ1 : St), Q r σ1 → Fr S_X12_casesOf σ0 σ1 → Q' r σ1) {K6 K6' : Int → Int → Int → Int → Int → Int → St → Prop} (hK6 : ∀ (x1 : Int) (x2 : Int) (x3 : Int) (x4 : Int) (x5 : Int) (x6 : Int) (σ : St), Fr S_X12_casesOf σ0 σ → K6 x1 x2 x3 x4 x5 x6 σ → K6' x1 x2 x3 x4 x5 x6 σ) {K104 K104' : Int → Int → Int → Int → Int → Int → Int → St → Prop} (hK104 : ∀ (x1 : Int) (x2 : Int) (x3 : Int) (x4 : Int) (x5 : Int) (x6 : Int) (x7 : Int) (σ : St), Fr S_X12_casesOf σ0 σ → K104 x1 x2 x3 x4 x5 x6 x7 σ → K104' x1 x2 x3 x4 x5 x6 x7 σ) {x1 x2 x3 x4 x5 x6 x7 : Int} {σ : St} (f0 : Fr S_X12_casesOf σ0 σ) (h : wp_X12_casesOf_b206 Q K6 K104 x1 x2 x3 x4 x5 x6 x7 σ) : wp_X12_casesOf_b206 Q' K6' K104' x1 x2 x3 x4 x5 x6 x7 σ := by
  unfold wp_X12_casesOf_b206 at h ⊢
  exact mf_X12_casesOf_b207 hq hK6 hK104 f0 h
set_option maxHeartbeats 1000000 in
theorem mf_X12_casesOf_b230 {Q Q' : Int → St → Prop} {σ0 : St} (hq : ∀ (r : Int) (σ1 : St), Q r σ1 → Fr S_X12_casesOf σ0 σ1 → Q' r σ1) {K6 K6' : Int → Int → Int → Int → Int → Int → St → Prop} (hK6 : ∀ (x1 : Int) (x2 : Int) (x3 : Int) (x4 : Int) (x5 : Int) (x6 : Int) (σ : St), Fr S_X12_casesOf σ0 σ → K6 x1 x2 x3 x4 x5 x6 σ → K6' x1 x2 x3 x4 x5 x6 σ) {x1 x2 x3 x4 x5 x6 : Int} {σ : St} (f0 : Fr S_X12_casesOf σ0 σ) (h : wp_X12_casesOf_b230 Q K6 x1 x2 x3 x4 x5 x6 σ) : wp_X12_casesOf_b230 Q' K6' x1 x2 x3 x4 x5 x6 σ := by
  unfold wp_X12_casesOf_b230 at h ⊢
  intro v7 ev7; replace h := h v7 ev7
  exact hK6 _ _ _ _ _ _ _ f0 h
set_option maxHeartbeats 1000000 in
theorem mf_X12_casesOf_l104 {Q Q' : Int → St → Prop} {σ0 : St} (hq : ∀ (r : Int) (σ1 : St), Q r σ1 → Fr S_X12_casesOf σ0 σ1 → Q' r σ1) {K6 K6' : Int → Int → Int → Int → Int → Int → St → Prop} (hK6 : ∀ (x1 : Int) (x2 : Int) (x3 : Int) (x4 : Int) (x5 : Int) (x6 : Int) (σ : St), Fr S_X12_casesOf σ0 σ → K6 x1 x2 x3 x4 x5 x6 σ → K6' x1 x2 x3 x4 x5 x6 σ) : ∀ (n : Nat) (x1 : Int) (x2 : Int) (x3 : Int) (x4 : Int) (x5 : Int) (x6 : Int) (x7 : Int) (σ : St), Fr S_X12_casesOf σ0 σ → wp_X12_casesOf_l104 Q K6 n x1 x2 x3 x4 x5 x6 x7 σ → wp_X12_casesOf_l104 Q' K6' n x1 x2 x3 x4 x5 x6 x7 σ := by
  intro n
  induction n with
  | zero => intro _ _ _ _ _ _ _ _ _ h; exact h.elim
  | succ n ih =>
    intro x1 x2 x3 x4 x5 x6 x7 σ f0 h
    unfold wp_X12_casesOf_l104 at h ⊢
    refine ⟨fun hc => ?_, fun hc => ?_⟩
    · replace h := h.1 hc
      exact mf_X12_casesOf_b230 hq hK6 f0 h
    · replace h := h.2 hc
      refine ⟨h.1, ?_⟩; replace h := h.2
      refine ⟨fun hc => ?_, fun hc => ?_⟩
      · replace h := h.1 hc
        exact mf_X12_casesOf_b230 hq hK6 f0 h
      · replace h := h.2 hc
        refine ⟨fun hc => ?_, fun hc => ?_⟩
        · replace h := h.1 hc
          refine ⟨h.1, ?_⟩; replace h := h.2
          refine mf_X12_isLetterAt (fun r9 σ10 h gσ10 => ?_) Fr.rf h
          have fσ10 : Fr S_X12_casesOf σ0 σ10 := f0.tr gσ10 (mkS_sub (by decide) (by decide))
          refine ⟨fun hc => ?_, fun hc => ?_⟩
          · replace h := h.1 hc
            exact mf_X12_casesOf_b206 hq hK6 ih fσ10 h
          · replace h := h.2 hc
            refine ⟨h.1, ?_⟩; replace h := h.2
            refine mf_X12_isLetterAt (fun r11 σ12 h gσ12 => ?_) Fr.rf h
            have fσ12 : Fr S_X12_casesOf σ0 σ12 := fσ10.tr gσ12 (mkS_sub (by decide) (by decide))
            refine ⟨fun hc => ?_, fun hc => ?_⟩
            · replace h := h.1 hc
              exact mf_X12_casesOf_b206 hq hK6 ih fσ12 h
            · replace h := h.2 hc
              exact mf_X12_casesOf_b207 hq hK6 ih fσ12 h
        · replace h := h.2 hc
          refine ⟨h.1, ?_⟩; replace h := h.2
          refine mf_X12_fits (fun r13 σ14 h gσ14 => ?_) Fr.rf h
          have fσ14 : Fr S_X12_casesOf σ0 σ14 := f0.tr gσ14 (mkS_sub (by decide) (by decide))
          refine ⟨fun hc => ?_, fun hc => ?_⟩
          · replace h := h.1 hc
            exact mf_X12_casesOf_b164 hq hK6 ih fσ14 h
          · replace h := h.2 hc
            refine ⟨h.1, ?_⟩; replace h := h.2
            refine mf_X12_fits (fun r15 σ16 h gσ16 => ?_) Fr.rf h
            have fσ16 : Fr S_X12_casesOf σ0 σ16 := fσ14.tr gσ16 (mkS_sub (by decide) (by decide))
            refine ⟨fun hc => ?_, fun hc => ?_⟩
            · replace h := h.1 hc
              exact mf_X12_casesOf_b164 hq hK6 ih fσ16 h
            · replace h := h.2 hc
              exact mf_X12_casesOf_b207 hq hK6 ih fσ16 h
set_option maxHeartbeats 1000000 in
theorem mf_X12_casesOf_b99 {Q Q' : Int → St → Prop} {σ0 : St} (hq : ∀ (r : Int) (σ1 : St), Q r σ1 → Fr S_X12_casesOf σ0 σ1 → Q' r σ1) {K6 K6' : Int → Int → Int → Int → Int → Int → St → Prop} (hK6 : ∀ (x1 : Int) (x2 : Int) (x3 : Int) (x4 : Int) (x5 : Int) (x6 : Int) (σ : St), Fr S_X12_casesOf σ0 σ → K6 x1 x2 x3 x4 x5 x6 σ → K6' x1 x2 x3 x4 x5 x6 σ) {x1 x2 x3 x4 x5 x6 : Int} {σ : St} (f0 : Fr S_X12_casesOf σ0 σ) (h : wp_X12_casesOf_b99 Q K6 x1 x2 x3 x4 x5 x6 σ) : wp_X12_casesOf_b99 Q' K6' x1 x2 x3 x4 x5 x6 σ := by
  unfold wp_X12_casesOf_b99 at h ⊢
  intro v8 ev8; replace h := h v8 ev8
  exact mf_X12_casesOf_l104 hq hK6 bigN _ _ _ _ _ _ _ _ f0 h
set_option maxHeartbeats 1000000 in
theorem mf_X12_casesOf_b96 {Q Q' : Int → St → Prop} {σ0 : St} (hq : ∀ (r : Int) (σ1 : St), Q r σ1 → Fr S_X12_casesOf σ0 σ1 → Q' r σ1) {K6 K6' : Int → Int → Int → Int → Int → Int → St → Prop} (hK6 : ∀ (x1 : Int) (x2 : Int) (x3 : Int) (x4 : Int) (x5 : Int) (x6 : Int) (σ : St), Fr S_X12_casesOf σ0 σ → K6 x1 x2 x3 x4 x5 x6 σ → K6' x1 x2 x3 x4 x5 x6 σ) {x1 x2 x3 x4 x6 s0 s1 : Int} {σ : St} (f0 : Fr S_X12_casesOf σ0 σ) (h : wp_X12_casesOf_b96 Q K6 x1 x2 x3 x4 x6 s0 s1 σ) : wp_X12_casesOf_b96 Q' K6' x1 x2 x3 x4 x6 s0 s1 σ := by
  unfold wp_X12_casesOf_b96 at h ⊢
  intro v17 ev17; replace h := h v17 ev17
  exact mf_X12_casesOf_b99 hq hK6 f0 h
set_option maxHeartbeats 1000000 in
theorem mf_X12_casesOf_b91 {Q Q' : Int → St → Prop} {σ0 : St} (hq : ∀ (r : Int) (σ1 : St), Q r σ1 → Fr S_X12_casesOf σ0 σ1 → Q' r σ1) {K6 K6' : Int → Int → Int → Int → Int → Int → St → Prop} (hK6 : ∀ (x1 : Int) (x2 : Int) (x3 : Int) (x4 : Int) (x5 : Int) (x6 : Int) (σ : St), Fr S_X12_casesOf σ0 σ → K6 x1 x2 x3 x4 x5 x6 σ → K6' x1 x2 x3 x4 x5 x6 σ) {x1 x2 x3 x4 x6 s0 : Int} {σ : St} (f0 : Fr S_X12_casesOf σ0 σ) (h : wp_X12_casesOf_b91 Q K6 x1 x2 x3 x4 x6 s0 σ) : wp_X12_casesOf_b91 Q' K6' x1 x2 x3 x4 x6 s0 σ := by
  unfold wp_X12_casesOf_b91 at h ⊢
  exact mf_X12_casesOf_b96 hq hK6 f0 h
set_option maxHeartbeats 1000000 in
theorem mf_X12_casesOf_b95 {Q Q' : Int → St → Prop} {σ0 : St} (hq : ∀ (r : Int) (σ1 : St), Q r σ1 → Fr S_X12_casesOf σ0 σ1 → Q' r σ1) {K6 K6' : Int → Int → Int → Int → Int → Int → St → Prop} (hK6 : ∀ (x1 : Int) (x2 : Int) (x3 : Int) (x4 : Int) (x5 : Int) (x6 : Int) (σ : St), Fr S_X12_casesOf σ0 σ → K6 x1 x2 x3 x4 x5 x6 σ → K6' x1 x2 x3 x4 x5 x6 σ) {x1 x2 x3 x4 x6 s0 : Int} {σ : St} (f0 : Fr S_X12_casesOf σ0 σ) (h : wp_X12_casesOf_b95 Q K6 x1 x2 x3 x4 x6 s0 σ) : wp_X12_casesOf_b95 Q' K6' x1 x2 x3 x4 x6 s0 σ := by
  unfold wp_X12_casesOf_b95 at h ⊢
  exact mf_X12_casesOf_b96 hq hK6 f0 h
set_option maxHeartbeats 1000000 in
theorem mf_X12_casesOf_l6 {Q Q' : Int → St → Prop} {σ0 : St} (hq : ∀ (r : Int) (σ1 : St), Q r σ1 → Fr S_X12_casesOf σ0 σ1 → Q' r σ1) : ∀ (n : Nat) (x1 : Int) (x2 : Int) (x3 : Int) (x4 : Int) (x5 : Int) (x6 : Int) (σ : St), Fr S_X12_casesOf σ0 σ → wp_X12_casesOf_l6 Q n x1 x2 x3 x4 x5 x6 σ → wp_X12_casesOf_l6 Q' n x1 x2 x3 x4 x5 x6 σ := by
  intro n
  induction n with
  | zero => intro _ _ _ _ _ _ _ _ h; exact h.elim
  | succ n ih =>
    intro x1 x2 x3 x4 x5 x6 σ f0 h
    unfold wp_X12_casesOf_l6 at h ⊢
    refine ⟨fun hc => ?_, fun hc => ?_⟩
    · replace h := h.1 hc
      exact hq _ _ h f0
    · replace h := h.2 hc
      refine mf_X12_isIn (fun r1 σ2 h gσ2 => ?_) Fr.rf h
      have fσ2 : Fr S_X12_casesOf σ0 σ2 := f0.tr gσ2 (mkS_sub (by decide) (by decide))
      refine ⟨fun hc => ?_, fun hc => ?_⟩
      · replace h := h.1 hc
        exact mf_X12_casesOf_b230 hq ih fσ2 h
      · replace h := h.2 hc
        refine ⟨h.1, ?_⟩; replace h := h.2
        refine ⟨fun hc => ?_, fun hc => ?_⟩
        · replace h := h.1 hc
          refine ⟨h.1, ?_⟩; replace h := h.2
          refine ⟨fun hc => ?_, fun hc => ?_⟩
          · replace h := h.1 hc
            exact mf_X12_casesOf_b99 hq ih fσ2 h
          · replace h := h.2 hc
            refine ⟨fun hc => ?_, fun hc => ?_⟩
            · replace h := h.1 hc
              refine ⟨h.1, ?_⟩; replace h := h.2
              refine mf_X12_isLetterAt (fun r3 σ4 h gσ4 => ?_) Fr.rf h
              have fσ4 : Fr S_X12_casesOf σ0 σ4 := fσ2.tr gσ4 (mkS_sub (by decide) (by decide))
              refine ⟨fun hc => ?_, fun hc => ?_⟩
              · replace h := h.1 hc
                exact mf_X12_casesOf_b95 hq ih fσ4 h
              · replace h := h.2 hc
                exact mf_X12_casesOf_b91 hq ih fσ4 h
            · replace h := h.2 hc
              refine ⟨h.1, ?_⟩; replace h := h.2
              refine mf_X12_fits (fun r5 σ6 h gσ6 => ?_) Fr.rf h
              have fσ6 : Fr S_X12_casesOf σ0 σ6 := fσ2.tr gσ6 (mkS_sub (by decide) (by decide))
              refine ⟨fun hc => ?_, fun hc => ?_⟩
              · replace h := h.1 hc
                exact mf_X12_casesOf_b95 hq ih fσ6 h
              · replace h := h.2 hc
                exact mf_X12_casesOf_b91 hq ih fσ6 h
        · replace h := h.2 hc
          exact mf_X12_casesOf_b230 hq ih fσ2 h
set_option maxHeartbeats 1000000 in
theorem mf_X12_casesOf {Q Q' : Int → St → Prop} {σ0 : St} (hq : ∀ (r : Int) (σ1 : St), Q r σ1 → Fr S_X12_casesOf σ0 σ1 → Q' r σ1) {x1 x2 x3 x4 : Int} {σ : St} (f0 : Fr S_X12_casesOf σ0 σ) (h : wp_X12_casesOf x1 x2 x3 x4 σ Q) : wp_X12_casesOf x1 x2 x3 x4 σ Q' := by
  unfold wp_X12_casesOf at h ⊢
  exact mf_X12_casesOf_l6 hq bigN _ _ _ _ _ _ _ f0 h
set_option maxHeartbeats 1000000 in
theorem mf_X12_cases_b61 {Q Q' : Int → St → Prop} {σ0 : St} (hq : ∀ (r : Int) (σ1 : St), Q r σ1 → Fr S_X12_cases σ0 σ1 → Q' r σ1) {s0 s1 s2 s3 : Int} {σ : St} (f0 : Fr S_X12_cases σ0 σ) (h : wp_X12_cases_b61 Q s0 s1 s2 s3 σ) : wp_X12_cases_b61 Q' s0 s1 s2 s3 σ := by
  unfold wp_X12_cases_b61 at h ⊢
  refine mf_X12_casesOf (fun r9 σ10 h gσ10 => ?_) Fr.rf h
  have fσ10 : Fr S_X12_cases σ0 σ10 := f0.tr gσ10 (mkS_sub (by decide) (by decide))
  exact hq _ _ h fσ10
set_option maxHeartbeats 1000000 in
theorem mf_X12_cases {Q Q' : Int → St → Prop} {σ0 : St} (hq : ∀ (r : Int) (σ1 : St), Q r σ1 → Fr S_X12_cases σ0 σ1 → Q' r σ1) {x1 x2 x3 x4 : Int} {σ : St} (f0 : Fr S_X12_cases σ0 σ) (h : wp_X12_cases x1 x2 x3 x4 σ Q) : wp_X12_cases x1 x2 x3 x4 σ Q' := by
  unfold wp_X12_cases at h ⊢
  refine mf_X12_isItem (fun r1 σ2 h gσ2 => ?_) Fr.rf h
  have fσ2 : Fr S_X12_cases σ0 σ2 := f0.tr gσ2 (mkS_sub (by decide) (by decide))
  refine ⟨fun hc => ?_, fun hc => ?_⟩
  · replace h := h.1 hc
    exact hq _ _ h fσ2
  · replace h := h.2 hc
    refine mf_X12_in (fun r3 σ4 h gσ4 => ?_) Fr.rf h
    have fσ4 : Fr S_X12_cases σ0 σ4 := fσ2.tr gσ4 (mkS_sub (by decide) (by decide))
    refine ⟨fun hc => ?_, fun hc => ?_⟩
    · replace h := h.1 hc
      refine mf_X12_looks (fun r5 σ6 h gσ6 => ?_) Fr.rf h
      have fσ6 : Fr S_X12_cases σ0 σ6 := fσ4.tr gσ6 (mkS_sub (by decide) (by decide))
      refine ⟨fun hc => ?_, fun hc => ?_⟩
      · replace h := h.1 hc
        refine ⟨fun hc => ?_, fun hc => ?_⟩
        · replace h := h.1 hc
          exact mf_X12_cases_b61 hq fσ6 h
        · replace h := h.2 hc
          exact mf_X12_cases_b61 hq fσ6 h
      · replace h := h.2 hc
        refine mf_X12_casesWith (fun r7 σ8 h gσ8 => ?_) Fr.rf h
        have fσ8 : Fr S_X12_cases σ0 σ8 := fσ6.tr gσ8 (mkS_sub (by decide) (by decide))
        exact hq _ _ h fσ8
    · replace h := h.2 hc
      exact hq _ _ h fσ4
set_option maxHeartbeats 1000000 in
theorem mf_X12_itemsMany_b55 {Q Q' : Int → St → Prop} {σ0 : St} (hq : ∀ (r : Int) (σ1 : St), Q r σ1 → Fr S_X12_itemsMany σ0 σ1 → Q' r σ1) {K8 K8' : Int → Int → St → Prop} (hK8 : ∀ (x1 : Int) (x2 : Int) (σ : St), Fr S_X12_itemsMany σ0 σ → K8 x1 x2 σ → K8' x1 x2 σ) {K20 K20' : Int → Int → Int → St → Prop} (hK20 : ∀ (x1 : Int) (x2 : Int) (x3 : Int) (σ : St), Fr S_X12_itemsMany σ0 σ → K20 x1 x2 x3 σ → K20' x1 x2 x3 σ) {K31 K31' : Int → Int → Int → Int → St → Prop} (hK31 : ∀ (x1 : Int) (x2 : Int) (x3 : Int) (x4 : Int) (σ : St), Fr S_X12_itemsMany σ0 σ → K31 x1 x2 x3 x4 σ → K31' x1 x2 x3 x4 σ) {x2 x3 x4 s0 s1 : Int} {σ : St} (f0 : Fr S_X12_itemsMany σ0 σ) (h : wp_X12_itemsMany_b55 Q K8 K20 K31 x2 x3 x4 s0 s1 σ) : wp_X12_itemsMany_b55 Q' K8' K20' K31' x2 x3 x4 s0 s1 σ := by
  unfold wp_X12_itemsMany_b55 at h ⊢
  intro v8 ev8; replace h := h v8 ev8
  intro v9 ev9; replace h := h v9 ev9
  exact hK31 _ _ _ _ _ f0 h
set_option maxHeartbeats 1000000 in
theorem mf_X12_itemsMany_l31 {Q Q' : Int → St → Prop} {σ0 : St} (hq : ∀ (r : Int) (σ1 : St), Q r σ1 → Fr S_X12_itemsMany σ0 σ1 → Q' r σ1) {K8 K8' : Int → Int → St → Prop} (hK8 : ∀ (x1 : Int) (x2 : Int) (σ : St), Fr S_X12_itemsMany σ0 σ → K8 x1 x2 σ → K8' x1 x2 σ) {K20 K20' : Int → Int → Int → St → Prop} (hK20 : ∀ (x1 : Int) (x2 : Int) (x3 : Int) (σ : St), Fr S_X12_itemsMany σ0 σ → K20 x1 x2 x3 σ → K20' x1 x2 x3 σ) : ∀ (n : Nat) (x1 : Int) (x2 : Int) (x3 : Int) (x4 : Int) (σ : St), Fr S_X12_itemsMany σ0 σ → wp_X12_itemsMany_l31 Q K8 K20 n x1 x2 x3 x4 σ → wp_X12_itemsMany_l31 Q' K8' K20' n x1 x2 x3 x4 σ := by
  intro n
  induction n with
  | zero => intro _ _ _ _ _ _ h; exact h.elim
  | succ n ih =>
    intro x1 x2 x3 x4 σ f0 h
    unfold wp_X12_itemsMany_l31 at h ⊢
    refine ⟨fun hc => ?_, fun hc => ?_⟩
    · replace h := h.1 hc
      intro v5 ev5; replace h := h v5 ev5
      exact hK20 _ _ _ _ f0 h
    · replace h := h.2 hc
      refine mf_X12_has (fun r6 σ7 h gσ7 => ?_) Fr.rf h
      have fσ7 : Fr S_X12_itemsMany σ0 σ7 := f0.tr gσ7 (mkS_sub (by decide) (by decide))
      refine ⟨fun hc => ?_, fun hc => ?_⟩
      · replace h := h.1 hc
        exact mf_X12_itemsMany_b55 hq hK8 hK20 ih fσ7 h
      · replace h := h.2 hc
        exact mf_X12_itemsMany_b55 hq hK8 hK20 ih fσ7 h
set_option maxHeartbeats 1000000 in
theorem mf_X12_itemsMany_l20 {Q Q' : Int → St → Prop} {σ0 : St} (hq : ∀ (r : Int) (σ1 : St), Q r σ1 → Fr S_X12_itemsMany σ0 σ1 → Q' r σ1) {K8 K8' : Int → Int → St → Prop} (hK8 : ∀ (x1 : Int) (x2 : Int) (σ : St), Fr S_X12_itemsMany σ0 σ → K8 x1 x2 σ → K8' x1 x2 σ) : ∀ (n : Nat) (x1 : Int) (x2 : Int) (x3 : Int) (σ : St), Fr S_X12_itemsMany σ0 σ → wp_X12_itemsMany_l20 Q K8 n x1 x2 x3 σ → wp_X12_itemsMany_l20 Q' K8' n x1 x2 x3 σ := by
  intro n
  induction n with
  | zero => intro _ _ _ _ _ h; exact h.elim
  | succ n ih =>
    intro x1 x2 x3 σ f0 h
    unfold wp_X12_itemsMany_l20 at h ⊢
    refine ⟨fun hc => ?_, fun hc => ?_⟩
    · replace h := h.1 hc
      intro v4 ev4; replace h := h v4 ev4
      exact hK8 _ _ _ f0 h
    · replace h := h.2 hc
      exact mf_X12_itemsMany_l31 hq hK8 ih bigN _ _ _ _ _ f0 h
set_option maxHeartbeats 1000000 in
theorem mf_X12_itemsMany_l8 {Q Q' : Int → St → Prop} {σ0 : St} (hq : ∀ (r : Int) (σ1 : St), Q r σ1 → Fr S_X12_itemsMany σ0 σ1 → Q' r σ1) : ∀ (n : Nat) (x1 : Int) (x2 : Int) (σ : St), Fr S_X12_itemsMany σ0 σ → wp_X12_itemsMany_l8 Q n x1 x2 σ → wp_X12_itemsMany_l8 Q' n x1 x2 σ := by
  intro n
  induction n with
  | zero => intro _ _ _ _ h; exact h.elim
  | succ n ih =>
    intro x1 x2 σ f0 h
    unfold wp_X12_itemsMany_l8 at h ⊢
    refine ⟨fun hc => ?_, fun hc => ?_⟩
    · replace h := h.1 hc
      exact hq _ _ h f0
    · replace h := h.2 hc
      intro v3 ev3; replace h := h v3 ev3
      exact mf_X12_itemsMany_l20 hq ih bigN _ _ _ _ f0 h
set_option maxHeartbeats 1000000 in
theorem mf_X12_itemsMany {Q Q' : Int → St → Prop} {σ0 : St} (hq : ∀ (r : Int) (σ1 : St), Q r σ1 → Fr S_X12_itemsMany σ0 σ1 → Q' r σ1) {σ : St} (f0 : Fr S_X12_itemsMany σ0 σ) (h : wp_X12_itemsMany  σ Q) : wp_X12_itemsMany  σ Q' := by
  unfold wp_X12_itemsMany at h ⊢
  refine mf_X12_looks (fun r1 σ2 h gσ2 => ?_) Fr.rf h
  have fσ2 : Fr S_X12_itemsMany σ0 σ2 := f0.tr gσ2 (mkS_sub (by decide) (by decide))
  exact mf_X12_itemsMany_l8 hq bigN _ _ _ fσ2 h
set_option maxHeartbeats 1000000 in
theorem mf_X12_order {Q Q' : Int → St → Prop} {σ0 : St} (hq : ∀ (r : Int) (σ1 : St), Q r σ1 → Fr S_X12_order σ0 σ1 → Q' r σ1) {x0 x1 x2 x3 : Int} {σ : St} (f0 : Fr S_X12_order σ0 σ) (h : wp_X12_order x0 x1 x2 x3 σ Q) : wp_X12_order x0 x1 x2 x3 σ Q' := by
  unfold wp_X12_order at h ⊢
  exact hq _ _ h f0
set_option maxHeartbeats 1000000 in
theorem mf_X12_settled_b138 {Q Q' : Int → St → Prop} {σ0 : St} (hq : ∀ (r : Int) (σ1 : St), Q r σ1 → Fr S_X12_settled σ0 σ1 → Q' r σ1) {K36 K36' : Int → Int → Int → Int → St → Prop} (hK36 : ∀ (x1 : Int) (x2 : Int) (x3 : Int) (x5 : Int) (σ : St), Fr S_X12_settled σ0 σ → K36 x1 x2 x3 x5 σ → K36' x1 x2 x3 x5 σ) {K50 K50' : Int → Int → Int → Int → Int → Int → St → Prop} (hK50 : ∀ (x1 : Int) (x2 : Int) (x3 : Int) (x5 : Int) (x6 : Int) (x8 : Int) (σ : St), Fr S_X12_settled σ0 σ → K50 x1 x2 x3 x5 x6 x8 σ → K50' x1 x2 x3 x5 x6 x8 σ) {K65 K65' : Int → Int → Int → Int → Int → Int → Int → St → Prop} (hK65 : ∀ (x1 : Int) (x2 : Int) (x3 : Int) (x5 : Int) (x6 : Int) (x8 : Int) (x9 : Int) (σ : St), Fr S_X12_settled σ0 σ → K65 x1 x2 x3 x5 x6 x8 x9 σ → K65' x1 x2 x3 x5 x6 x8 x9 σ) {K77 K77' : Int → Int → Int → Int → Int → Int → Int → Int → St → Prop} (hK77 : ∀ (x1 : Int) (x2 : Int) (x3 : Int) (x5 : Int) (x6 : Int) (x8 : Int) (x9 : Int) (x10 : Int) (σ : St), Fr S_X12_settled σ0 σ → K77 x1 x2 x3 x5 x6 x8 x9 x10 σ → K77' x1 x2 x3 x5 x6 x8 x9 x10 σ) {x1 x2 x3 x5 x6 x8 x9 x10 : Int} {σ : St} (f0 : Fr S_X12_settled σ0 σ) (h : wp_X12_settled_b138 Q K36 K50 K65 K77 x1 x2 x3 x5 x6 x8 x9 x10 σ) : wp_X12_settled_b138 Q' K36' K50' K65' K77' x1 x2 x3 x5 x6 x8 x9 x10 σ := by
  unfold wp_X12_settled_b138 at h ⊢
  intro v17 ev17; replace h := h v17 ev17
  exact hK77 _ _ _ _ _ _ _ _ _ f0 h
set_option maxHeartbeats 1000000 in
theorem mf_X12_settled_l77 {Q Q' : Int → St → Prop} {σ0 : St} (hq : ∀ (r : Int) (σ1 : St), Q r σ1 → Fr S_X12_settled σ0 σ1 → Q' r σ1) {K36 K36' : Int → Int → Int → Int → St → Prop} (hK36 : ∀ (x1 : Int) (x2 : Int) (x3 : Int) (x5 : Int) (σ : St), Fr S_X12_settled σ0 σ → K36 x1 x2 x3 x5 σ → K36' x1 x2 x3 x5 σ) {K50 K50' : Int → Int → Int → Int → Int → Int → St → Prop} (hK50 : ∀ (x1 : Int) (x2 : Int) (x3 : Int) (x5 : Int) (x6 : Int) (x8 : Int) (σ : St), Fr S_X12_settled σ0 σ → K50 x1 x2 x3 x5 x6 x8 σ → K50' x1 x2 x3 x5 x6 x8 σ) {K65 K65' : Int → Int → Int → Int → Int → Int → Int → St → Prop} (hK65 : ∀ (x1 : Int) (x2 : Int) (x3 : Int) (x5 : Int) (x6 : Int) (x8 : Int) (x9 : Int) (σ : St), Fr S_X12_settled σ0 σ → K65 x1 x2 x3 x5 x6 x8 x9 σ → K65' x1 x2 x3 x5 x6 x8 x9 σ) : ∀ (n : Nat) (x1 : Int) (x2 : Int) (x3 : Int) (x5 : Int) (x6 : Int) (x8 : Int) (x9 : Int) (x10 : Int) (σ : St), Fr S_X12_settled σ0 σ → wp_X12_settled_l77 Q K36 K50 K65 n x1 x2 x3 x5 x6 x8 x9 x10 σ → wp_X12_settled_l77 Q' K36' K50' K65' n x1 x2 x3 x5 x6 x8 x9 x10 σ := by
  intro n
  induction n with
  | zero => intro _ _ _ _ _ _ _ _ _ _ h; exact h.elim
  | succ n ih =>
    intro x1 x2 x3 x5 x6 x8 x9 x10 σ f0 h
    unfold wp_X12_settled_l77 at h ⊢
    refine ⟨fun hc => ?_, fun hc => ?_⟩
    · replace h := h.1 hc
      intro v9 ev9; replace h := h v9 ev9
      exact hK65 _ _ _ _ _ _ _ _ f0 h
    · replace h := h.2 hc
      refine mf_X12_item (fun r10 σ11 h gσ11 => ?_) Fr.rf h
      have fσ11 : Fr S_X12_settled σ0 σ11 := f0.tr gσ11 (mkS_sub (by decide) (by decide))
      refine ⟨h.1, ?_⟩; replace h := h.2
      refine mf_X12_order (fun r12 σ13 h gσ13 => ?_) Fr.rf h
      have fσ13 : Fr S_X12_settled σ0 σ13 := fσ11.tr gσ13 (mkS_sub (by decide) (by decide))
      refine mf_X12_has (fun r14 σ15 h gσ15 => ?_) Fr.rf h
      have fσ15 : Fr S_X12_settled σ0 σ15 := fσ13.tr gσ15 (mkS_sub (by decide) (by decide))
      refine ⟨fun hc => ?_, fun hc => ?_⟩
      · replace h := h.1 hc
        exact mf_X12_settled_b138 hq hK36 hK50 hK65 ih fσ15 h
      · replace h := h.2 hc
        refine ⟨fun hc => ?_, fun hc => ?_⟩
        · replace h := h.1 hc
          exact mf_X12_settled_b138 hq hK36 hK50 hK65 ih fσ15 h
        · replace h := h.2 hc
          intro v16 ev16; replace h := h v16 ev16
          exact mf_X12_settled_b138 hq hK36 hK50 hK65 ih fσ15 h
set_option maxHeartbeats 1000000 in
theorem mf_X12_settled_l65 {Q Q' : Int → St → Prop} {σ0 : St} (hq : ∀ (r : Int) (σ1 : St), Q r σ1 → Fr S_X12_settled σ0 σ1 → Q' r σ1) {K36 K36' : Int → Int → Int → Int → St → Prop} (hK36 : ∀ (x1 : Int) (x2 : Int) (x3 : Int) (x5 : Int) (σ : St), Fr S_X12_settled σ0 σ → K36 x1 x2 x3 x5 σ → K36' x1 x2 x3 x5 σ) {K50 K50' : Int → Int → Int → Int → Int → Int → St → Prop} (hK50 : ∀ (x1 : Int) (x2 : Int) (x3 : Int) (x5 : Int) (x6 : Int) (x8 : Int) (σ : St), Fr S_X12_settled σ0 σ → K50 x1 x2 x3 x5 x6 x8 σ → K50' x1 x2 x3 x5 x6 x8 σ) : ∀ (n : Nat) (x1 : Int) (x2 : Int) (x3 : Int) (x5 : Int) (x6 : Int) (x8 : Int) (x9 : Int) (σ : St), Fr S_X12_settled σ0 σ → wp_X12_settled_l65 Q K36 K50 n x1 x2 x3 x5 x6 x8 x9 σ → wp_X12_settled_l65 Q' K36' K50' n x1 x2 x3 x5 x6 x8 x9 σ := by
  intro n
  induction n with
  | zero => intro _ _ _ _ _ _ _ _ _ h; exact h.elim
  | succ n ih =>
    intro x1 x2 x3 x5 x6 x8 x9 σ f0 h
    unfold wp_X12_settled_l65 at h ⊢
    refine ⟨fun hc => ?_, fun hc => ?_⟩
    · replace h := h.1 hc
      intro v8 ev8; replace h := h v8 ev8
      exact hK50 _ _ _ _ _ _ _ f0 h
    · replace h := h.2 hc
      exact mf_X12_settled_l77 hq hK36 hK50 ih bigN _ _ _ _ _ _ _ _ _ f0 h
set_option maxHeartbeats 1000000 in
theorem mf_X12_settled_l50 {Q Q' : Int → St → Prop} {σ0 : St} (hq : ∀ (r : Int) (σ1 : St), Q r σ1 → Fr S_X12_settled σ0 σ1 → Q' r σ1) {K36 K36' : Int → Int → Int → Int → St → Prop} (hK36 : ∀ (x1 : Int) (x2 : Int) (x3 : Int) (x5 : Int) (σ : St), Fr S_X12_settled σ0 σ → K36 x1 x2 x3 x5 σ → K36' x1 x2 x3 x5 σ) : ∀ (n : Nat) (x1 : Int) (x2 : Int) (x3 : Int) (x5 : Int) (x6 : Int) (x8 : Int) (σ : St), Fr S_X12_settled σ0 σ → wp_X12_settled_l50 Q K36 n x1 x2 x3 x5 x6 x8 σ → wp_X12_settled_l50 Q' K36' n x1 x2 x3 x5 x6 x8 σ := by
  intro n
  induction n with
  | zero => intro _ _ _ _ _ _ _ _ h; exact h.elim
  | succ n ih =>
    intro x1 x2 x3 x5 x6 x8 σ f0 h
    unfold wp_X12_settled_l50 at h ⊢
    refine ⟨fun hc => ?_, fun hc => ?_⟩
    · replace h := h.1 hc
      intro v6 ev6; replace h := h v6 ev6
      exact hK36 _ _ _ _ _ f0 h
    · replace h := h.2 hc
      intro v7 ev7; replace h := h v7 ev7
      exact mf_X12_settled_l65 hq hK36 ih bigN _ _ _ _ _ _ _ _ f0 h
set_option maxHeartbeats 1000000 in
theorem mf_X12_settled_l36 {Q Q' : Int → St → Prop} {σ0 : St} (hq : ∀ (r : Int) (σ1 : St), Q r σ1 → Fr S_X12_settled σ0 σ1 → Q' r σ1) : ∀ (n : Nat) (x1 : Int) (x2 : Int) (x3 : Int) (x5 : Int) (σ : St), Fr S_X12_settled σ0 σ → wp_X12_settled_l36 Q n x1 x2 x3 x5 σ → wp_X12_settled_l36 Q' n x1 x2 x3 x5 σ := by
  intro n
  induction n with
  | zero => intro _ _ _ _ _ _ h; exact h.elim
  | succ n ih =>
    intro x1 x2 x3 x5 σ f0 h
    unfold wp_X12_settled_l36 at h ⊢
    refine ⟨fun hc => ?_, fun hc => ?_⟩
    · replace h := h.1 hc
      intro v5 ev5; replace h := h v5 ev5
      refine ⟨fun hc => ?_, fun hc => ?_⟩
      · replace h := h.1 hc
        refine ⟨fun hc => ?_, fun hc => ?_⟩
        · replace h := h.1 hc
          refine ⟨fun hc => ?_, fun hc => ?_⟩
          · replace h := h.1 hc
            exact hq _ _ h f0
          · replace h := h.2 hc
            exact hq _ _ h f0
        · replace h := h.2 hc
          exact hq _ _ h f0
      · replace h := h.2 hc
        exact hq _ _ h f0
    · replace h := h.2 hc
      exact mf_X12_settled_l50 hq ih bigN _ _ _ _ _ _ _ f0 h
set_option maxHeartbeats 1000000 in
theorem mf_X12_settled {Q Q' : Int → St → Prop} {σ0 : St} (hq : ∀ (r : Int) (σ1 : St), Q r σ1 → Fr S_X12_settled σ0 σ1 → Q' r σ1) {x1 x2 : Int} {σ : St} (f0 : Fr S_X12_settled σ0 σ) (h : wp_X12_settled x1 x2 σ Q) : wp_X12_settled x1 x2 σ Q' := by
  unfold wp_X12_settled at h ⊢
  refine ⟨fun hc => ?_, fun hc => ?_⟩
  · replace h := h.1 hc
    exact hq _ _ h f0
  · replace h := h.2 hc
    refine mf_X12_in (fun r1 σ2 h gσ2 => ?_) Fr.rf h
    have fσ2 : Fr S_X12_settled σ0 σ2 := f0.tr gσ2 (mkS_sub (by decide) (by decide))
    refine ⟨fun hc => ?_, fun hc => ?_⟩
    · replace h := h.1 hc
      refine mf_X12_itemsMany (fun r3 σ4 h gσ4 => ?_) Fr.rf h
      have fσ4 : Fr S_X12_settled σ0 σ4 := fσ2.tr gσ4 (mkS_sub (by decide) (by decide))
      refine ⟨fun hc => ?_, fun hc => ?_⟩
      · replace h := h.1 hc
        exact mf_X12_settled_l36 hq bigN _ _ _ _ _ fσ4 h
      · replace h := h.2 hc
        exact hq _ _ h fσ4
    · replace h := h.2 hc
      exact hq _ _ h fσ2
set_option maxHeartbeats 1000000 in
theorem mf_X12_isPlace {Q Q' : Int → St → Prop} {σ0 : St} (hq : ∀ (r : Int) (σ1 : St), Q r σ1 → Fr S_X12_isPlace σ0 σ1 → Q' r σ1) {x0 : Int} {σ : St} (f0 : Fr S_X12_isPlace σ0 σ) (h : wp_X12_isPlace x0 σ Q) : wp_X12_isPlace x0 σ Q' := by
  unfold wp_X12_isPlace at h ⊢
  refine mf_X12_in (fun r1 σ2 h gσ2 => ?_) Fr.rf h
  have fσ2 : Fr S_X12_isPlace σ0 σ2 := f0.tr gσ2 (mkS_sub (by decide) (by decide))
  exact ⟨h.1, hq _ _ h.2 fσ2⟩
set_option maxHeartbeats 1000000 in
theorem mf_X12_manyOf {Q Q' : Int → St → Prop} {σ0 : St} (hq : ∀ (r : Int) (σ1 : St), Q r σ1 → Fr S_X12_manyOf σ0 σ1 → Q' r σ1) {x1 x2 x3 : Int} {σ : St} (f0 : Fr S_X12_manyOf σ0 σ) (h : wp_X12_manyOf x1 x2 x3 σ Q) : wp_X12_manyOf x1 x2 x3 σ Q' := by
  unfold wp_X12_manyOf at h ⊢
  refine ⟨fun hc => ?_, fun hc => ?_⟩
  · replace h := h.1 hc
    refine mf_X12_item (fun r1 σ2 h gσ2 => ?_) Fr.rf h
    have fσ2 : Fr S_X12_manyOf σ0 σ2 := f0.tr gσ2 (mkS_sub (by decide) (by decide))
    refine ⟨h.1, ?_⟩; replace h := h.2
    exact hq _ _ h fσ2
  · replace h := h.2 hc
    refine mf_X12_fits (fun r3 σ4 h gσ4 => ?_) Fr.rf h
    have fσ4 : Fr S_X12_manyOf σ0 σ4 := f0.tr gσ4 (mkS_sub (by decide) (by decide))
    refine ⟨fun hc => ?_, fun hc => ?_⟩
    · replace h := h.1 hc
      exact hq _ _ h fσ4
    · replace h := h.2 hc
      exact hq _ _ h fσ4
set_option maxHeartbeats 1000000 in
theorem mf_X12_nodeOf {Q Q' : Int → St → Prop} {σ0 : St} (hq : ∀ (r : Int) (σ1 : St), Q r σ1 → Fr S_X12_nodeOf σ0 σ1 → Q' r σ1) {x1 x2 x3 x4 : Int} {σ : St} (f0 : Fr S_X12_nodeOf σ0 σ) (h : wp_X12_nodeOf x1 x2 x3 x4 σ Q) : wp_X12_nodeOf x1 x2 x3 x4 σ Q' := by
  unfold wp_X12_nodeOf at h ⊢
  refine ⟨fun hc => ?_, fun hc => ?_⟩
  · replace h := h.1 hc
    refine mf_X12_item (fun r1 σ2 h gσ2 => ?_) Fr.rf h
    have fσ2 : Fr S_X12_nodeOf σ0 σ2 := f0.tr gσ2 (mkS_sub (by decide) (by decide))
    refine ⟨h.1, ?_⟩; replace h := h.2
    exact hq _ _ h fσ2
  · replace h := h.2 hc
    exact hq _ _ h f0
set_option maxHeartbeats 1000000 in
theorem mf_X12_costNode {Q Q' : Int → St → Prop} {σ0 : St} (hq : ∀ (r : Int) (σ1 : St), Q r σ1 → Fr S_X12_costNode σ0 σ1 → Q' r σ1) {x1 : Int} {σ : St} (f0 : Fr S_X12_costNode σ0 σ) (h : wp_X12_costNode x1 σ Q) : wp_X12_costNode x1 σ Q' := by
  unfold wp_X12_costNode at h ⊢
  refine ⟨fun hc => ?_, fun hc => ?_⟩
  · replace h := h.1 hc
    refine ⟨h.1, ?_⟩; replace h := h.2
    exact hq _ _ h f0
  · replace h := h.2 hc
    exact hq _ _ h f0
set_option maxHeartbeats 1000000 in
theorem mf_X12_stepsNode {Q Q' : Int → St → Prop} {σ0 : St} (hq : ∀ (r : Int) (σ1 : St), Q r σ1 → Fr S_X12_stepsNode σ0 σ1 → Q' r σ1) {x1 : Int} {σ : St} (f0 : Fr S_X12_stepsNode σ0 σ) (h : wp_X12_stepsNode x1 σ Q) : wp_X12_stepsNode x1 σ Q' := by
  unfold wp_X12_stepsNode at h ⊢
  refine ⟨fun hc => ?_, fun hc => ?_⟩
  · replace h := h.1 hc
    refine ⟨h.1, ?_⟩; replace h := h.2
    exact hq _ _ h f0
  · replace h := h.2 hc
    exact hq _ _ h f0
set_option maxHeartbeats 1000000 in
theorem mf_X12_deepNode {Q Q' : Int → St → Prop} {σ0 : St} (hq : ∀ (r : Int) (σ1 : St), Q r σ1 → Fr S_X12_deepNode σ0 σ1 → Q' r σ1) {x1 : Int} {σ : St} (f0 : Fr S_X12_deepNode σ0 σ) (h : wp_X12_deepNode x1 σ Q) : wp_X12_deepNode x1 σ Q' := by
  unfold wp_X12_deepNode at h ⊢
  refine ⟨fun hc => ?_, fun hc => ?_⟩
  · replace h := h.1 hc
    refine ⟨h.1, ?_⟩; replace h := h.2
    exact hq _ _ h f0
  · replace h := h.2 hc
    exact hq _ _ h f0
set_option maxHeartbeats 1000000 in
theorem mf_X12_writes_b19 {Q Q' : Int → St → Prop} {σ0 : St} (hq : ∀ (r : Int) (σ1 : St), Q r σ1 → Fr S_X12_writes σ0 σ1 → Q' r σ1) {x1 x2 x3 x4 x5 x6 s0 : Int} {σ : St} (f0 : Fr S_X12_writes σ0 σ) (h : wp_X12_writes_b19 Q x1 x2 x3 x4 x5 x6 s0 σ) : wp_X12_writes_b19 Q' x1 x2 x3 x4 x5 x6 s0 σ := by
  unfold wp_X12_writes_b19 at h ⊢
  refine ⟨h.1, fun σ1 eσ1 => ?_⟩; replace h := h.2 σ1 eσ1; have fσ1 : Fr S_X12_writes σ0 σ1 := by rw [eσ1]; exact f0.up rfl
  refine ⟨h.1, fun σ2 eσ2 => ?_⟩; replace h := h.2 σ2 eσ2; have fσ2 : Fr S_X12_writes σ0 σ2 := by rw [eσ2]; exact fσ1.up rfl
  refine ⟨h.1, fun σ3 eσ3 => ?_⟩; replace h := h.2 σ3 eσ3; have fσ3 : Fr S_X12_writes σ0 σ3 := by rw [eσ3]; exact fσ2.up rfl
  refine ⟨h.1, fun σ4 eσ4 => ?_⟩; replace h := h.2 σ4 eσ4; have fσ4 : Fr S_X12_writes σ0 σ4 := by rw [eσ4]; exact fσ3.up rfl
  refine ⟨h.1, fun σ5 eσ5 => ?_⟩; replace h := h.2 σ5 eσ5; have fσ5 : Fr S_X12_writes σ0 σ5 := by rw [eσ5]; exact fσ4.up rfl
  refine ⟨h.1, fun σ6 eσ6 => ?_⟩; replace h := h.2 σ6 eσ6; have fσ6 : Fr S_X12_writes σ0 σ6 := by rw [eσ6]; exact fσ5.up rfl
  refine ⟨h.1, ?_⟩; replace h := h.2
  refine mf_X12_costNode (fun r7 σ8 h gσ8 => ?_) Fr.rf h
  have fσ8 : Fr S_X12_writes σ0 σ8 := fσ6.tr gσ8 (mkS_sub (by decide) (by decide))
  refine mf_X12_costNode (fun r9 σ10 h gσ10 => ?_) Fr.rf h
  have fσ10 : Fr S_X12_writes σ0 σ10 := fσ8.tr gσ10 (mkS_sub (by decide) (by decide))
  refine ⟨h.1, fun σ11 eσ11 => ?_⟩; replace h := h.2 σ11 eσ11; have fσ11 : Fr S_X12_writes σ0 σ11 := by rw [eσ11]; exact fσ10.up rfl
  refine mf_X12_stepsNode (fun r12 σ13 h gσ13 => ?_) Fr.rf h
  have fσ13 : Fr S_X12_writes σ0 σ13 := fσ11.tr gσ13 (mkS_sub (by decide) (by decide))
  refine mf_X12_stepsNode (fun r14 σ15 h gσ15 => ?_) Fr.rf h
  have fσ15 : Fr S_X12_writes σ0 σ15 := fσ13.tr gσ15 (mkS_sub (by decide) (by decide))
  refine ⟨h.1, fun σ16 eσ16 => ?_⟩; replace h := h.2 σ16 eσ16; have fσ16 : Fr S_X12_writes σ0 σ16 := by rw [eσ16]; exact fσ15.up rfl
  refine mf_X12_deepNode (fun r17 σ18 h gσ18 => ?_) Fr.rf h
  have fσ18 : Fr S_X12_writes σ0 σ18 := fσ16.tr gσ18 (mkS_sub (by decide) (by decide))
  refine mf_X12_deepNode (fun r19 σ20 h gσ20 => ?_) Fr.rf h
  have fσ20 : Fr S_X12_writes σ0 σ20 := fσ18.tr gσ20 (mkS_sub (by decide) (by decide))
  refine ⟨h.1, fun σ21 eσ21 => ?_⟩; replace h := h.2 σ21 eσ21; have fσ21 : Fr S_X12_writes σ0 σ21 := by rw [eσ21]; exact fσ20.up rfl
  exact hq _ _ h fσ21
set_option maxHeartbeats 1000000 in
theorem mf_X12_writes {Q Q' : Int → St → Prop} {σ0 : St} (hq : ∀ (r : Int) (σ1 : St), Q r σ1 → Fr S_X12_writes σ0 σ1 → Q' r σ1) {x1 x2 x3 x4 x5 x6 : Int} {σ : St} (f0 : Fr S_X12_writes σ0 σ) (h : wp_X12_writes x1 x2 x3 x4 x5 x6 σ Q) : wp_X12_writes x1 x2 x3 x4 x5 x6 σ Q' := by
  unfold wp_X12_writes at h ⊢
  refine ⟨fun hc => ?_, fun hc => ?_⟩
  · replace h := h.1 hc
    exact mf_X12_writes_b19 hq f0 h
  · replace h := h.2 hc
    exact mf_X12_writes_b19 hq f0 h
set_option maxHeartbeats 1000000 in
theorem mf_X12_formOf_l5 {Q Q' : Int → St → Prop} {σ0 : St} (hq : ∀ (r : Int) (σ1 : St), Q r σ1 → Fr S_X12_formOf σ0 σ1 → Q' r σ1) {M : Int → Int → St → (Int → St → Prop) → Prop} (hM : ∀ (x1 : Int) (x2 : Int) (σ : St) {Q Q' : Int → St → Prop}, (∀ (r : Int) (σ1 : St), Q r σ1 → Fr S_X12_formOf σ σ1 → Q' r σ1) → M x1 x2 σ Q → M x1 x2 σ Q') : ∀ (n : Nat) (x3 : Int) (x4 : Int) (σ : St), Fr S_X12_formOf σ0 σ → wp_X12_formOf_l5 M Q n x3 x4 σ → wp_X12_formOf_l5 M Q' n x3 x4 σ := by
  intro n
  induction n with
  | zero => intro _ _ _ _ h; exact h.elim
  | succ n ih =>
    intro x3 x4 σ f0 h
    unfold wp_X12_formOf_l5 at h ⊢
    refine ⟨fun hc => ?_, fun hc => ?_⟩
    · replace h := h.1 hc
      exact hq _ _ h f0
    · replace h := h.2 hc
      refine ⟨fun hc => ?_, fun hc => ?_⟩
      · replace h := h.1 hc
        exact hq _ _ h f0
      · replace h := h.2 hc
        refine ⟨fun hc => ?_, fun hc => ?_⟩
        · replace h := h.1 hc
          exact hq _ _ h f0
        · replace h := h.2 hc
          refine ⟨h.1, ?_⟩; replace h := h.2
          refine ⟨h.1, ?_⟩; replace h := h.2
          refine ⟨fun hc => ?_, fun hc => ?_⟩
          · replace h := h.1 hc
            refine ⟨h.1, ?_⟩; replace h := h.2
            refine ⟨h.1, ?_⟩; replace h := h.2
            refine ⟨fun hc => ?_, fun hc => ?_⟩
            · replace h := h.1 hc
              refine ⟨h.1, ?_⟩; replace h := h.2
              refine ⟨h.1, ?_⟩; replace h := h.2
              refine hM _ _ _ (fun r1 σ2 h gσ2 => ?_) h
              have fσ2 : Fr S_X12_formOf σ0 σ2 := f0.tr gσ2 (mkS_sub (by decide) (by decide))
              refine ⟨fun hc => ?_, fun hc => ?_⟩
              · replace h := h.1 hc
                refine ⟨h.1, ?_⟩; replace h := h.2
                intro v3 ev3; replace h := h v3 ev3
                refine ⟨h.1, ?_⟩; replace h := h.2
                intro v4 ev4; replace h := h v4 ev4
                exact ih _ _ _ fσ2 h
              · replace h := h.2 hc
                exact hq _ _ h fσ2
            · replace h := h.2 hc
              refine ⟨h.1, ?_⟩; replace h := h.2
              refine ⟨h.1, ?_⟩; replace h := h.2
              exact hq _ _ h f0
          · replace h := h.2 hc
            refine ⟨h.1, ?_⟩; replace h := h.2
            refine ⟨h.1, ?_⟩; replace h := h.2
            exact hq _ _ h f0
set_option maxHeartbeats 1000000 in
theorem mf_X12_formOf_e {Q Q' : Int → St → Prop} {σ0 : St} (hq : ∀ (r : Int) (σ1 : St), Q r σ1 → Fr S_X12_formOf σ0 σ1 → Q' r σ1) {M : Int → Int → St → (Int → St → Prop) → Prop} (hM : ∀ (x1 : Int) (x2 : Int) (σ : St) {Q Q' : Int → St → Prop}, (∀ (r : Int) (σ1 : St), Q r σ1 → Fr S_X12_formOf σ σ1 → Q' r σ1) → M x1 x2 σ Q → M x1 x2 σ Q') {x1 x2 : Int} {σ : St} (f0 : Fr S_X12_formOf σ0 σ) (h : wp_X12_formOf_l5 M Q bigN x1 x2 σ) : wp_X12_formOf_l5 M Q' bigN x1 x2 σ := by
  exact mf_X12_formOf_l5 hq hM bigN _ _ _ f0 h
set_option maxHeartbeats 1000000 in
theorem mf_X12_formOf_r : ∀ (d : Nat) (x1 : Int) (x2 : Int) (σ : St) {Q Q' : Int → St → Prop}, (∀ (r : Int) (σ1 : St), Q r σ1 → Fr S_X12_formOf σ σ1 → Q' r σ1) → wp_X12_formOf d x1 x2 σ Q → wp_X12_formOf d x1 x2 σ Q' := by
  intro d
  induction d with
  | zero => intro _ _ _ _ _ _ h; exact h.elim
  | succ d ih =>
    intro x1 x2 σ Q Q' hq h
    unfold wp_X12_formOf at h ⊢
    exact mf_X12_formOf_e hq ih Fr.rf h
theorem mf_X12_formOf {d : Nat} {Q Q' : Int → St → Prop} {σ0 : St} (hq : ∀ (r : Int) (σ1 : St), Q r σ1 → Fr S_X12_formOf σ0 σ1 → Q' r σ1) {x1 x2 : Int} {σ : St} (f0 : Fr S_X12_formOf σ0 σ) (h : wp_X12_formOf d x1 x2 σ Q) : wp_X12_formOf d x1 x2 σ Q' := mf_X12_formOf_r d x1 x2 σ (fun r σ1 g1 g2 => hq r σ1 g1 (f0.tr g2 (fun _ _ h => h))) h
set_option maxHeartbeats 1000000 in
theorem mf_X12_isAhead {Q Q' : Int → St → Prop} {σ0 : St} (hq : ∀ (r : Int) (σ1 : St), Q r σ1 → Fr S_X12_isAhead σ0 σ1 → Q' r σ1) {x1 x2 : Int} {σ : St} (f0 : Fr S_X12_isAhead σ0 σ) (h : wp_X12_isAhead x1 x2 σ Q) : wp_X12_isAhead x1 x2 σ Q' := by
  unfold wp_X12_isAhead at h ⊢
  refine ⟨h.1, ?_⟩; replace h := h.2
  refine ⟨h.1, ?_⟩; replace h := h.2
  refine ⟨fun hc => ?_, fun hc => ?_⟩
  · replace h := h.1 hc
    refine mf_X12_formOf (fun r1 σ2 h gσ2 => ?_) Fr.rf h
    have fσ2 : Fr S_X12_isAhead σ0 σ2 := f0.tr gσ2 (mkS_sub (by decide) (by decide))
    refine ⟨fun hc => ?_, fun hc => ?_⟩
    · replace h := h.1 hc
      exact hq _ _ h fσ2
    · replace h := h.2 hc
      exact hq _ _ h fσ2
  · replace h := h.2 hc
    refine ⟨h.1, ?_⟩; replace h := h.2
    refine ⟨h.1, ?_⟩; replace h := h.2
    refine ⟨fun hc => ?_, fun hc => ?_⟩
    · replace h := h.1 hc
      exact hq _ _ h f0
    · replace h := h.2 hc
      exact hq _ _ h f0
set_option maxHeartbeats 1000000 in
theorem mf_X12_takesNode_b18 {Q Q' : Int → St → Prop} {σ0 : St} (hq : ∀ (r : Int) (σ1 : St), Q r σ1 → Fr S_X12_takesNode σ0 σ1 → Q' r σ1) {σ : St} (f0 : Fr S_X12_takesNode σ0 σ) (h : wp_X12_takesNode_b18 Q  σ) : wp_X12_takesNode_b18 Q'  σ := by
  unfold wp_X12_takesNode_b18 at h ⊢
  intro σ2 eσ2; replace h := h σ2 eσ2; have fσ2 : Fr S_X12_takesNode σ0 σ2 := by rw [eσ2]; exact f0.up rfl
  exact hq _ _ h fσ2
set_option maxHeartbeats 1000000 in
theorem mf_X12_takesNode {Q Q' : Int → St → Prop} {σ0 : St} (hq : ∀ (r : Int) (σ1 : St), Q r σ1 → Fr S_X12_takesNode σ0 σ1 → Q' r σ1) {σ : St} (f0 : Fr S_X12_takesNode σ0 σ) (h : wp_X12_takesNode  σ Q) : wp_X12_takesNode  σ Q' := by
  unfold wp_X12_takesNode at h ⊢
  refine ⟨fun hc => ?_, fun hc => ?_⟩
  · replace h := h.1 hc
    exact mf_X12_takesNode_b18 hq f0 h
  · replace h := h.2 hc
    intro σ1 eσ1; replace h := h σ1 eσ1; have fσ1 : Fr S_X12_takesNode σ0 σ1 := by rw [eσ1]; exact f0.up rfl
    exact mf_X12_takesNode_b18 hq fσ1 h
set_option maxHeartbeats 1000000 in
theorem mf_X12_comes_l128 {Q Q' : Int → St → Prop} {σ0 : St} (hq : ∀ (r : Int) (σ1 : St), Q r σ1 → Fr S_X12_comes σ0 σ1 → Q' r σ1) : ∀ (n : Nat) (x1 : Int) (x2 : Int) (x3 : Int) (x4 : Int) (σ : St), Fr S_X12_comes σ0 σ → wp_X12_comes_l128 Q n x1 x2 x3 x4 σ → wp_X12_comes_l128 Q' n x1 x2 x3 x4 σ := by
  intro n
  induction n with
  | zero => intro _ _ _ _ _ _ h; exact h.elim
  | succ n ih =>
    intro x1 x2 x3 x4 σ f0 h
    unfold wp_X12_comes_l128 at h ⊢
    refine ⟨fun hc => ?_, fun hc => ?_⟩
    · replace h := h.1 hc
      refine ⟨h.1, fun σ12 eσ12 => ?_⟩; replace h := h.2 σ12 eσ12; have fσ12 : Fr S_X12_comes σ0 σ12 := by rw [eσ12]; exact f0.up rfl
      exact hq _ _ h fσ12
    · replace h := h.2 hc
      refine ⟨h.1, ?_⟩; replace h := h.2
      refine ⟨h.1, fun σ13 eσ13 => ?_⟩; replace h := h.2 σ13 eσ13; have fσ13 : Fr S_X12_comes σ0 σ13 := by rw [eσ13]; exact f0.up rfl
      intro v14 ev14; replace h := h v14 ev14
      exact ih _ _ _ _ _ fσ13 h
set_option maxHeartbeats 1000000 in
theorem mf_X12_comes_b118 {Q Q' : Int → St → Prop} {σ0 : St} (hq : ∀ (r : Int) (σ1 : St), Q r σ1 → Fr S_X12_comes σ0 σ1 → Q' r σ1) {x1 x2 x3 : Int} {σ : St} (f0 : Fr S_X12_comes σ0 σ) (h : wp_X12_comes_b118 Q x1 x2 x3 σ) : wp_X12_comes_b118 Q' x1 x2 x3 σ := by
  unfold wp_X12_comes_b118 at h ⊢
  refine ⟨h.1, ?_⟩; replace h := h.2
  intro v11 ev11; replace h := h v11 ev11
  exact mf_X12_comes_l128 hq bigN _ _ _ _ _ f0 h
set_option maxHeartbeats 1000000 in
theorem mf_X12_comes_b65 {Q Q' : Int → St → Prop} {σ0 : St} (hq : ∀ (r : Int) (σ1 : St), Q r σ1 → Fr S_X12_comes σ0 σ1 → Q' r σ1) {x1 x2 x3 : Int} {σ : St} (f0 : Fr S_X12_comes σ0 σ) (h : wp_X12_comes_b65 Q x1 x2 x3 σ) : wp_X12_comes_b65 Q' x1 x2 x3 σ := by
  unfold wp_X12_comes_b65 at h ⊢
  refine ⟨fun hc => ?_, fun hc => ?_⟩
  · replace h := h.1 hc
    refine mf_X12_takesNode (fun r7 σ8 h gσ8 => ?_) Fr.rf h
    have fσ8 : Fr S_X12_comes σ0 σ8 := f0.tr gσ8 (mkS_sub (by decide) (by decide))
    refine ⟨h.1, ?_⟩; replace h := h.2
    refine ⟨fun hc => ?_, fun hc => ?_⟩
    · replace h := h.1 hc
      refine ⟨h.1, ?_⟩; replace h := h.2
      refine ⟨h.1, fun σ9 eσ9 => ?_⟩; replace h := h.2 σ9 eσ9; have fσ9 : Fr S_X12_comes σ0 σ9 := by rw [eσ9]; exact fσ8.up rfl
      exact mf_X12_comes_b118 hq fσ9 h
    · replace h := h.2 hc
      refine ⟨h.1, ?_⟩; replace h := h.2
      intro σ10 eσ10; replace h := h σ10 eσ10; have fσ10 : Fr S_X12_comes σ0 σ10 := by rw [eσ10]; exact fσ8.up rfl
      exact mf_X12_comes_b118 hq fσ10 h
  · replace h := h.2 hc
    exact hq _ _ h f0
set_option maxHeartbeats 1000000 in
theorem mf_X12_comes_l34 {Q Q' : Int → St → Prop} {σ0 : St} (hq : ∀ (r : Int) (σ1 : St), Q r σ1 → Fr S_X12_comes σ0 σ1 → Q' r σ1) : ∀ (n : Nat) (x1 : Int) (x2 : Int) (x3 : Int) (σ : St), Fr S_X12_comes σ0 σ → wp_X12_comes_l34 Q n x1 x2 x3 σ → wp_X12_comes_l34 Q' n x1 x2 x3 σ := by
  intro n
  induction n with
  | zero => intro _ _ _ _ _ h; exact h.elim
  | succ n ih =>
    intro x1 x2 x3 σ f0 h
    unfold wp_X12_comes_l34 at h ⊢
    refine ⟨fun hc => ?_, fun hc => ?_⟩
    · replace h := h.1 hc
      exact mf_X12_comes_b65 hq f0 h
    · replace h := h.2 hc
      refine ⟨h.1, ?_⟩; replace h := h.2
      refine mf_X12_isAhead (fun r4 σ5 h gσ5 => ?_) Fr.rf h
      have fσ5 : Fr S_X12_comes σ0 σ5 := f0.tr gσ5 (mkS_sub (by decide) (by decide))
      refine ⟨fun hc => ?_, fun hc => ?_⟩
      · replace h := h.1 hc
        exact mf_X12_comes_b65 hq fσ5 h
      · replace h := h.2 hc
        intro v6 ev6; replace h := h v6 ev6
        exact ih _ _ _ _ fσ5 h
set_option maxHeartbeats 1000000 in
theorem mf_X12_comes {Q Q' : Int → St → Prop} {σ0 : St} (hq : ∀ (r : Int) (σ1 : St), Q r σ1 → Fr S_X12_comes σ0 σ1 → Q' r σ1) {x1 : Int} {σ : St} (f0 : Fr S_X12_comes σ0 σ) (h : wp_X12_comes x1 σ Q) : wp_X12_comes x1 σ Q' := by
  unfold wp_X12_comes at h ⊢
  refine ⟨h.1, ?_⟩; replace h := h.2
  refine ⟨h.1, ?_⟩; replace h := h.2
  refine ⟨h.1, ?_⟩; replace h := h.2
  refine ⟨h.1, ?_⟩; replace h := h.2
  refine mf_X12_item (fun r1 σ2 h gσ2 => ?_) Fr.rf h
  have fσ2 : Fr S_X12_comes σ0 σ2 := f0.tr gσ2 (mkS_sub (by decide) (by decide))
  refine ⟨h.1, ?_⟩; replace h := h.2
  intro v3 ev3; replace h := h v3 ev3
  exact mf_X12_comes_l34 hq bigN _ _ _ _ fσ2 h
set_option maxHeartbeats 1000000 in
theorem mf_X12_laysTwoBest_l54 {Q Q' : Int → St → Prop} {σ0 : St} (hq : ∀ (r : Int) (σ1 : St), Q r σ1 → Fr S_X12_laysTwoBest σ0 σ1 → Q' r σ1) {K5 K5' : Int → Int → Int → Int → St → Prop} (hK5 : ∀ (x1 : Int) (x2 : Int) (x3 : Int) (x4 : Int) (σ : St), Fr S_X12_laysTwoBest σ0 σ → K5 x1 x2 x3 x4 σ → K5' x1 x2 x3 x4 σ) {K44 K44' : Int → Int → Int → Int → Int → Int → Int → St → Prop} (hK44 : ∀ (x1 : Int) (x2 : Int) (x3 : Int) (x4 : Int) (x5 : Int) (x6 : Int) (x7 : Int) (σ : St), Fr S_X12_laysTwoBest σ0 σ → K44 x1 x2 x3 x4 x5 x6 x7 σ → K44' x1 x2 x3 x4 x5 x6 x7 σ) : ∀ (n : Nat) (x1 : Int) (x2 : Int) (x3 : Int) (x4 : Int) (x5 : Int) (x6 : Int) (x7 : Int) (x8 : Int) (σ : St), Fr S_X12_laysTwoBest σ0 σ → wp_X12_laysTwoBest_l54 Q K5 K44 n x1 x2 x3 x4 x5 x6 x7 x8 σ → wp_X12_laysTwoBest_l54 Q' K5' K44' n x1 x2 x3 x4 x5 x6 x7 x8 σ := by
  intro n
  induction n with
  | zero => intro _ _ _ _ _ _ _ _ _ _ h; exact h.elim
  | succ n ih =>
    intro x1 x2 x3 x4 x5 x6 x7 x8 σ f0 h
    unfold wp_X12_laysTwoBest_l54 at h ⊢
    refine ⟨fun hc => ?_, fun hc => ?_⟩
    · replace h := h.1 hc
      intro v7 ev7; replace h := h v7 ev7
      exact hK44 _ _ _ _ _ _ _ _ f0 h
    · replace h := h.2 hc
      refine ⟨h.1, ?_⟩; replace h := h.2
      refine mf_X12_nodeOf (fun r8 σ9 h gσ9 => ?_) Fr.rf h
      have fσ9 : Fr S_X12_laysTwoBest σ0 σ9 := f0.tr gσ9 (mkS_sub (by decide) (by decide))
      refine ⟨h.1, ?_⟩; replace h := h.2
      refine mf_X12_nodeOf (fun r10 σ11 h gσ11 => ?_) Fr.rf h
      have fσ11 : Fr S_X12_laysTwoBest σ0 σ11 := fσ9.tr gσ11 (mkS_sub (by decide) (by decide))
      refine mf_X12_writes (fun r12 σ13 h gσ13 => ?_) Fr.rf h
      have fσ13 : Fr S_X12_laysTwoBest σ0 σ13 := fσ11.tr gσ13 (mkS_sub (by decide) (by decide))
      refine mf_X12_comes (fun r14 σ15 h gσ15 => ?_) Fr.rf h
      have fσ15 : Fr S_X12_laysTwoBest σ0 σ15 := fσ13.tr gσ15 (mkS_sub (by decide) (by decide))
      intro v16 ev16; replace h := h v16 ev16
      exact ih _ _ _ _ _ _ _ _ _ fσ15 h
set_option maxHeartbeats 1000000 in
theorem mf_X12_laysTwoBest_l44 {Q Q' : Int → St → Prop} {σ0 : St} (hq : ∀ (r : Int) (σ1 : St), Q r σ1 → Fr S_X12_laysTwoBest σ0 σ1 → Q' r σ1) {K5 K5' : Int → Int → Int → Int → St → Prop} (hK5 : ∀ (x1 : Int) (x2 : Int) (x3 : Int) (x4 : Int) (σ : St), Fr S_X12_laysTwoBest σ0 σ → K5 x1 x2 x3 x4 σ → K5' x1 x2 x3 x4 σ) : ∀ (n : Nat) (x1 : Int) (x2 : Int) (x3 : Int) (x4 : Int) (x5 : Int) (x6 : Int) (x7 : Int) (σ : St), Fr S_X12_laysTwoBest σ0 σ → wp_X12_laysTwoBest_l44 Q K5 n x1 x2 x3 x4 x5 x6 x7 σ → wp_X12_laysTwoBest_l44 Q' K5' n x1 x2 x3 x4 x5 x6 x7 σ := by
  intro n
  induction n with
  | zero => intro _ _ _ _ _ _ _ _ _ h; exact h.elim
  | succ n ih =>
    intro x1 x2 x3 x4 x5 x6 x7 σ f0 h
    unfold wp_X12_laysTwoBest_l44 at h ⊢
    refine ⟨fun hc => ?_, fun hc => ?_⟩
    · replace h := h.1 hc
      intro v6 ev6; replace h := h v6 ev6
      exact hK5 _ _ _ _ _ f0 h
    · replace h := h.2 hc
      exact mf_X12_laysTwoBest_l54 hq hK5 ih bigN _ _ _ _ _ _ _ _ _ f0 h
set_option maxHeartbeats 1000000 in
theorem mf_X12_laysTwoBest_l5 {Q Q' : Int → St → Prop} {σ0 : St} (hq : ∀ (r : Int) (σ1 : St), Q r σ1 → Fr S_X12_laysTwoBest σ0 σ1 → Q' r σ1) : ∀ (n : Nat) (x1 : Int) (x2 : Int) (x3 : Int) (x4 : Int) (σ : St), Fr S_X12_laysTwoBest σ0 σ → wp_X12_laysTwoBest_l5 Q n x1 x2 x3 x4 σ → wp_X12_laysTwoBest_l5 Q' n x1 x2 x3 x4 σ := by
  intro n
  induction n with
  | zero => intro _ _ _ _ _ _ h; exact h.elim
  | succ n ih =>
    intro x1 x2 x3 x4 σ f0 h
    unfold wp_X12_laysTwoBest_l5 at h ⊢
    refine ⟨fun hc => ?_, fun hc => ?_⟩
    · replace h := h.1 hc
      exact hq _ _ h f0
    · replace h := h.2 hc
      refine ⟨h.1, ?_⟩; replace h := h.2
      refine mf_X12_manyOf (fun r2 σ3 h gσ3 => ?_) Fr.rf h
      have fσ3 : Fr S_X12_laysTwoBest σ0 σ3 := f0.tr gσ3 (mkS_sub (by decide) (by decide))
      refine ⟨h.1, ?_⟩; replace h := h.2
      refine mf_X12_manyOf (fun r4 σ5 h gσ5 => ?_) Fr.rf h
      have fσ5 : Fr S_X12_laysTwoBest σ0 σ5 := fσ3.tr gσ5 (mkS_sub (by decide) (by decide))
      exact mf_X12_laysTwoBest_l44 hq ih bigN _ _ _ _ _ _ _ _ fσ5 h
set_option maxHeartbeats 1000000 in
theorem mf_X12_laysTwoBest {Q Q' : Int → St → Prop} {σ0 : St} (hq : ∀ (r : Int) (σ1 : St), Q r σ1 → Fr S_X12_laysTwoBest σ0 σ1 → Q' r σ1) {x1 x2 x3 : Int} {σ : St} (f0 : Fr S_X12_laysTwoBest σ0 σ) (h : wp_X12_laysTwoBest x1 x2 x3 σ Q) : wp_X12_laysTwoBest x1 x2 x3 σ Q' := by
  unfold wp_X12_laysTwoBest at h ⊢
  intro v1 ev1; replace h := h v1 ev1
  exact mf_X12_laysTwoBest_l5 hq bigN _ _ _ _ _ f0 h
set_option maxHeartbeats 1000000 in
theorem mf_X12_firstPending_b159 {Q Q' : Int → St → Prop} {σ0 : St} (hq : ∀ (r : Int) (σ1 : St), Q r σ1 → Fr S_X12_firstPending σ0 σ1 → Q' r σ1) {K4 K4' : Int → Int → St → Prop} (hK4 : ∀ (x1 : Int) (x2 : Int) (σ : St), Fr S_X12_firstPending σ0 σ → K4 x1 x2 σ → K4' x1 x2 σ) {x1 x2 : Int} {σ : St} (f0 : Fr S_X12_firstPending σ0 σ) (h : wp_X12_firstPending_b159 Q K4 x1 x2 σ) : wp_X12_firstPending_b159 Q' K4' x1 x2 σ := by
  unfold wp_X12_firstPending_b159 at h ⊢
  intro v6 ev6; replace h := h v6 ev6
  exact hK4 _ _ _ f0 h
set_option maxHeartbeats 1000000 in
theorem mf_X12_firstPending_b88 {Q Q' : Int → St → Prop} {σ0 : St} (hq : ∀ (r : Int) (σ1 : St), Q r σ1 → Fr S_X12_firstPending σ0 σ1 → Q' r σ1) {K4 K4' : Int → Int → St → Prop} (hK4 : ∀ (x1 : Int) (x2 : Int) (σ : St), Fr S_X12_firstPending σ0 σ → K4 x1 x2 σ → K4' x1 x2 σ) {x2 : Int} {σ : St} (f0 : Fr S_X12_firstPending σ0 σ) (h : wp_X12_firstPending_b88 Q K4 x2 σ) : wp_X12_firstPending_b88 Q' K4' x2 σ := by
  unfold wp_X12_firstPending_b88 at h ⊢
  exact mf_X12_firstPending_b159 hq hK4 f0 h
set_option maxHeartbeats 1000000 in
theorem mf_X12_firstPending_l4 {Q Q' : Int → St → Prop} {σ0 : St} (hq : ∀ (r : Int) (σ1 : St), Q r σ1 → Fr S_X12_firstPending σ0 σ1 → Q' r σ1) : ∀ (n : Nat) (x1 : Int) (x2 : Int) (σ : St), Fr S_X12_firstPending σ0 σ → wp_X12_firstPending_l4 Q n x1 x2 σ → wp_X12_firstPending_l4 Q' n x1 x2 σ := by
  intro n
  induction n with
  | zero => intro _ _ _ _ h; exact h.elim
  | succ n ih =>
    intro x1 x2 σ f0 h
    unfold wp_X12_firstPending_l4 at h ⊢
    refine ⟨fun hc => ?_, fun hc => ?_⟩
    · replace h := h.1 hc
      exact hq _ _ h f0
    · replace h := h.2 hc
      refine ⟨h.1, ?_⟩; replace h := h.2
      intro v1 ev1; replace h := h v1 ev1
      refine ⟨fun hc => ?_, fun hc => ?_⟩
      · replace h := h.1 hc
        exact mf_X12_firstPending_b159 hq ih f0 h
      · replace h := h.2 hc
        refine ⟨h.1, ?_⟩; replace h := h.2
        refine ⟨h.1, ?_⟩; replace h := h.2
        refine ⟨h.1, ?_⟩; replace h := h.2
        refine ⟨h.1, ?_⟩; replace h := h.2
        refine mf_X12_item (fun r2 σ3 h gσ3 => ?_) Fr.rf h
        have fσ3 : Fr S_X12_firstPending σ0 σ3 := f0.tr gσ3 (mkS_sub (by decide) (by decide))
        refine ⟨h.1, ?_⟩; replace h := h.2
        refine ⟨fun hc => ?_, fun hc => ?_⟩
        · replace h := h.1 hc
          refine ⟨fun hc => ?_, fun hc => ?_⟩
          · replace h := h.1 hc
            exact mf_X12_firstPending_b88 hq ih fσ3 h
          · replace h := h.2 hc
            refine ⟨h.1, ?_⟩; replace h := h.2
            refine ⟨h.1, ?_⟩; replace h := h.2
            refine ⟨h.1, ?_⟩; replace h := h.2
            refine ⟨fun hc => ?_, fun hc => ?_⟩
            · replace h := h.1 hc
              refine ⟨h.1, ?_⟩; replace h := h.2
              refine ⟨h.1, ?_⟩; replace h := h.2
              refine ⟨h.1, ?_⟩; replace h := h.2
              refine ⟨fun hc => ?_, fun hc => ?_⟩
              · replace h := h.1 hc
                exact mf_X12_firstPending_b159 hq ih fσ3 h
              · replace h := h.2 hc
                refine ⟨h.1, ?_⟩; replace h := h.2
                refine ⟨h.1, ?_⟩; replace h := h.2
                refine ⟨h.1, ?_⟩; replace h := h.2
                refine ⟨h.1, ?_⟩; replace h := h.2
                refine ⟨h.1, ?_⟩; replace h := h.2
                refine ⟨fun hc => ?_, fun hc => ?_⟩
                · replace h := h.1 hc
                  exact mf_X12_firstPending_b159 hq ih fσ3 h
                · replace h := h.2 hc
                  refine ⟨h.1, ?_⟩; replace h := h.2
                  refine mf_X12_formOf (fun r4 σ5 h gσ5 => ?_) Fr.rf h
                  have fσ5 : Fr S_X12_firstPending σ0 σ5 := fσ3.tr gσ5 (mkS_sub (by decide) (by decide))
                  refine ⟨fun hc => ?_, fun hc => ?_⟩
                  · replace h := h.1 hc
                    exact mf_X12_firstPending_b159 hq ih fσ5 h
                  · replace h := h.2 hc
                    exact mf_X12_firstPending_b159 hq ih fσ5 h
            · replace h := h.2 hc
              exact mf_X12_firstPending_b88 hq ih fσ3 h
        · replace h := h.2 hc
          exact mf_X12_firstPending_b159 hq ih fσ3 h
set_option maxHeartbeats 1000000 in
theorem mf_X12_firstPending {Q Q' : Int → St → Prop} {σ0 : St} (hq : ∀ (r : Int) (σ1 : St), Q r σ1 → Fr S_X12_firstPending σ0 σ1 → Q' r σ1) {σ : St} (f0 : Fr S_X12_firstPending σ0 σ) (h : wp_X12_firstPending  σ Q) : wp_X12_firstPending  σ Q' := by
  unfold wp_X12_firstPending at h ⊢
  exact mf_X12_firstPending_l4 hq bigN _ _ _ f0 h
set_option maxHeartbeats 1000000 in
theorem mf_X12_waits {Q Q' : Int → St → Prop} {σ0 : St} (hq : ∀ (r : Int) (σ1 : St), Q r σ1 → Fr S_X12_waits σ0 σ1 → Q' r σ1) {x1 : Int} {σ : St} (f0 : Fr S_X12_waits σ0 σ) (h : wp_X12_waits x1 σ Q) : wp_X12_waits x1 σ Q' := by
  unfold wp_X12_waits at h ⊢
  refine ⟨h.1, fun σ1 eσ1 => ?_⟩; replace h := h.2 σ1 eσ1; have fσ1 : Fr S_X12_waits σ0 σ1 := by rw [eσ1]; exact f0.up rfl
  intro σ2 eσ2; replace h := h σ2 eσ2; have fσ2 : Fr S_X12_waits σ0 σ2 := by rw [eσ2]; exact fσ1.up rfl
  exact hq _ _ h fσ2
set_option maxHeartbeats 1000000 in
theorem mf_X12_laysBestSpan_b35 {Q Q' : Int → St → Prop} {σ0 : St} (hq : ∀ (r : Int) (σ1 : St), Q r σ1 → Fr S_X12_laysBestSpan σ0 σ1 → Q' r σ1) {K2 K2' : Int → Int → Int → St → Prop} (hK2 : ∀ (x1 : Int) (x2 : Int) (x3 : Int) (σ : St), Fr S_X12_laysBestSpan σ0 σ → K2 x1 x2 x3 σ → K2' x1 x2 x3 σ) {x1 x2 x3 : Int} {σ : St} (f0 : Fr S_X12_laysBestSpan σ0 σ) (h : wp_X12_laysBestSpan_b35 Q K2 x1 x2 x3 σ) : wp_X12_laysBestSpan_b35 Q' K2' x1 x2 x3 σ := by
  unfold wp_X12_laysBestSpan_b35 at h ⊢
  intro v9 ev9; replace h := h v9 ev9
  exact hK2 _ _ _ _ f0 h
set_option maxHeartbeats 1000000 in
theorem mf_X12_laysBestSpan_l70 {Q Q' : Int → St → Prop} {σ0 : St} (hq : ∀ (r : Int) (σ1 : St), Q r σ1 → Fr S_X12_laysBestSpan σ0 σ1 → Q' r σ1) {K53 K53' : Int → Int → Int → St → Prop} (hK53 : ∀ (x1 : Int) (x2 : Int) (x3 : Int) (σ : St), Fr S_X12_laysBestSpan σ0 σ → K53 x1 x2 x3 σ → K53' x1 x2 x3 σ) : ∀ (n : Nat) (x1 : Int) (x2 : Int) (x3 : Int) (x4 : Int) (x5 : Int) (σ : St), Fr S_X12_laysBestSpan σ0 σ → wp_X12_laysBestSpan_l70 Q K53 n x1 x2 x3 x4 x5 σ → wp_X12_laysBestSpan_l70 Q' K53' n x1 x2 x3 x4 x5 σ := by
  intro n
  induction n with
  | zero => intro _ _ _ _ _ _ _ h; exact h.elim
  | succ n ih =>
    intro x1 x2 x3 x4 x5 σ f0 h
    unfold wp_X12_laysBestSpan_l70 at h ⊢
    refine ⟨h.1, ?_⟩; replace h := h.2
    refine ⟨fun hc => ?_, fun hc => ?_⟩
    · replace h := h.1 hc
      refine ⟨h.1, fun σ22 eσ22 => ?_⟩; replace h := h.2 σ22 eσ22; have fσ22 : Fr S_X12_laysBestSpan σ0 σ22 := by rw [eσ22]; exact f0.up rfl
      intro v23 ev23; replace h := h v23 ev23
      exact hK53 _ _ _ _ fσ22 h
    · replace h := h.2 hc
      refine ⟨h.1, ?_⟩; replace h := h.2
      refine mf_X12_waits (fun r24 σ25 h gσ25 => ?_) Fr.rf h
      have fσ25 : Fr S_X12_laysBestSpan σ0 σ25 := f0.tr gσ25 (mkS_sub (by decide) (by decide))
      intro v26 ev26; replace h := h v26 ev26
      exact ih _ _ _ _ _ _ fσ25 h
set_option maxHeartbeats 1000000 in
theorem mf_X12_laysBestSpan_b194 {Q Q' : Int → St → Prop} {σ0 : St} (hq : ∀ (r : Int) (σ1 : St), Q r σ1 → Fr S_X12_laysBestSpan σ0 σ1 → Q' r σ1) {K121 K121' : Int → Int → Int → St → Prop} (hK121 : ∀ (x1 : Int) (x2 : Int) (x3 : Int) (σ : St), Fr S_X12_laysBestSpan σ0 σ → K121 x1 x2 x3 σ → K121' x1 x2 x3 σ) {x1 x2 x3 : Int} {σ : St} (f0 : Fr S_X12_laysBestSpan σ0 σ) (h : wp_X12_laysBestSpan_b194 Q K121 x1 x2 x3 σ) : wp_X12_laysBestSpan_b194 Q' K121' x1 x2 x3 σ := by
  unfold wp_X12_laysBestSpan_b194 at h ⊢
  intro v34 ev34; replace h := h v34 ev34
  exact hK121 _ _ _ _ f0 h
set_option maxHeartbeats 1000000 in
theorem mf_X12_laysBestSpan_b346 {Q Q' : Int → St → Prop} {σ0 : St} (hq : ∀ (r : Int) (σ1 : St), Q r σ1 → Fr S_X12_laysBestSpan σ0 σ1 → Q' r σ1) {K205 K205' : Int → Int → Int → St → Prop} (hK205 : ∀ (x1 : Int) (x2 : Int) (x3 : Int) (σ : St), Fr S_X12_laysBestSpan σ0 σ → K205 x1 x2 x3 σ → K205' x1 x2 x3 σ) {K282 K282' : Int → Int → Int → Int → Int → St → Prop} (hK282 : ∀ (x1 : Int) (x2 : Int) (x4 : Int) (x5 : Int) (x7 : Int) (σ : St), Fr S_X12_laysBestSpan σ0 σ → K282 x1 x2 x4 x5 x7 σ → K282' x1 x2 x4 x5 x7 σ) {x1 x2 x4 x5 x7 : Int} {σ : St} (f0 : Fr S_X12_laysBestSpan σ0 σ) (h : wp_X12_laysBestSpan_b346 Q K205 K282 x1 x2 x4 x5 x7 σ) : wp_X12_laysBestSpan_b346 Q' K205' K282' x1 x2 x4 x5 x7 σ := by
  unfold wp_X12_laysBestSpan_b346 at h ⊢
  intro v45 ev45; replace h := h v45 ev45
  exact hK282 _ _ _ _ _ _ f0 h
set_option maxHeartbeats 1000000 in
theorem mf_X12_laysBestSpan_l282 {Q Q' : Int → St → Prop} {σ0 : St} (hq : ∀ (r : Int) (σ1 : St), Q r σ1 → Fr S_X12_laysBestSpan σ0 σ1 → Q' r σ1) {K205 K205' : Int → Int → Int → St → Prop} (hK205 : ∀ (x1 : Int) (x2 : Int) (x3 : Int) (σ : St), Fr S_X12_laysBestSpan σ0 σ → K205 x1 x2 x3 σ → K205' x1 x2 x3 σ) : ∀ (n : Nat) (x1 : Int) (x2 : Int) (x4 : Int) (x5 : Int) (x7 : Int) (σ : St), Fr S_X12_laysBestSpan σ0 σ → wp_X12_laysBestSpan_l282 Q K205 n x1 x2 x4 x5 x7 σ → wp_X12_laysBestSpan_l282 Q' K205' n x1 x2 x4 x5 x7 σ := by
  intro n
  induction n with
  | zero => intro _ _ _ _ _ _ _ h; exact h.elim
  | succ n ih =>
    intro x1 x2 x4 x5 x7 σ f0 h
    unfold wp_X12_laysBestSpan_l282 at h ⊢
    refine ⟨fun hc => ?_, fun hc => ?_⟩
    · replace h := h.1 hc
      refine mf_X12_firstPending (fun r35 σ36 h gσ36 => ?_) Fr.rf h
      have fσ36 : Fr S_X12_laysBestSpan σ0 σ36 := f0.tr gσ36 (mkS_sub (by decide) (by decide))
      exact hK205 _ _ _ _ fσ36 h
    · replace h := h.2 hc
      refine mf_X12_isIn (fun r37 σ38 h gσ38 => ?_) Fr.rf h
      have fσ38 : Fr S_X12_laysBestSpan σ0 σ38 := f0.tr gσ38 (mkS_sub (by decide) (by decide))
      refine ⟨fun hc => ?_, fun hc => ?_⟩
      · replace h := h.1 hc
        exact mf_X12_laysBestSpan_b346 hq hK205 ih fσ38 h
      · replace h := h.2 hc
        refine ⟨h.1, ?_⟩; replace h := h.2
        refine ⟨fun hc => ?_, fun hc => ?_⟩
        · replace h := h.1 hc
          exact mf_X12_laysBestSpan_b346 hq hK205 ih fσ38 h
        · replace h := h.2 hc
          refine ⟨h.1, ?_⟩; replace h := h.2
          refine ⟨fun hc => ?_, fun hc => ?_⟩
          · replace h := h.1 hc
            refine mf_X12_writes (fun r39 σ40 h gσ40 => ?_) Fr.rf h
            have fσ40 : Fr S_X12_laysBestSpan σ0 σ40 := fσ38.tr gσ40 (mkS_sub (by decide) (by decide))
            refine mf_X12_waits (fun r41 σ42 h gσ42 => ?_) Fr.rf h
            have fσ42 : Fr S_X12_laysBestSpan σ0 σ42 := fσ40.tr gσ42 (mkS_sub (by decide) (by decide))
            refine mf_X12_takesNode (fun r43 σ44 h gσ44 => ?_) Fr.rf h
            have fσ44 : Fr S_X12_laysBestSpan σ0 σ44 := fσ42.tr gσ44 (mkS_sub (by decide) (by decide))
            exact mf_X12_laysBestSpan_b346 hq hK205 ih fσ44 h
          · replace h := h.2 hc
            exact mf_X12_laysBestSpan_b346 hq hK205 ih fσ38 h
set_option maxHeartbeats 1000000 in
theorem mf_X12_laysBestSpan_l205 {Q Q' : Int → St → Prop} {σ0 : St} (hq : ∀ (r : Int) (σ1 : St), Q r σ1 → Fr S_X12_laysBestSpan σ0 σ1 → Q' r σ1) : ∀ (n : Nat) (x1 : Int) (x2 : Int) (x3 : Int) (σ : St), Fr S_X12_laysBestSpan σ0 σ → wp_X12_laysBestSpan_l205 Q n x1 x2 x3 σ → wp_X12_laysBestSpan_l205 Q' n x1 x2 x3 σ := by
  intro n
  induction n with
  | zero => intro _ _ _ _ _ h; exact h.elim
  | succ n ih =>
    intro x1 x2 x3 σ f0 h
    unfold wp_X12_laysBestSpan_l205 at h ⊢
    refine ⟨fun hc => ?_, fun hc => ?_⟩
    · replace h := h.1 hc
      exact hq _ _ h f0
    · replace h := h.2 hc
      refine ⟨h.1, ?_⟩; replace h := h.2
      intro v27 ev27; replace h := h v27 ev27
      refine ⟨h.1, fun σ28 eσ28 => ?_⟩; replace h := h.2 σ28 eσ28; have fσ28 : Fr S_X12_laysBestSpan σ0 σ28 := by rw [eσ28]; exact f0.up rfl
      refine ⟨h.1, ?_⟩; replace h := h.2
      refine ⟨h.1, ?_⟩; replace h := h.2
      intro v29 ev29; replace h := h v29 ev29
      refine mf_X12_item (fun r30 σ31 h gσ31 => ?_) Fr.rf h
      have fσ31 : Fr S_X12_laysBestSpan σ0 σ31 := fσ28.tr gσ31 (mkS_sub (by decide) (by decide))
      refine ⟨h.1, ?_⟩; replace h := h.2
      refine ⟨h.1, fun σ32 eσ32 => ?_⟩; replace h := h.2 σ32 eσ32; have fσ32 : Fr S_X12_laysBestSpan σ0 σ32 := by rw [eσ32]; exact fσ31.up rfl
      refine ⟨h.1, ?_⟩; replace h := h.2
      refine ⟨h.1, fun σ33 eσ33 => ?_⟩; replace h := h.2 σ33 eσ33; have fσ33 : Fr S_X12_laysBestSpan σ0 σ33 := by rw [eσ33]; exact fσ32.up rfl
      exact mf_X12_laysBestSpan_l282 hq ih bigN _ _ _ _ _ _ fσ33 h
set_option maxHeartbeats 1000000 in
theorem mf_X12_laysBestSpan_l121 {Q Q' : Int → St → Prop} {σ0 : St} (hq : ∀ (r : Int) (σ1 : St), Q r σ1 → Fr S_X12_laysBestSpan σ0 σ1 → Q' r σ1) : ∀ (n : Nat) (x1 : Int) (x2 : Int) (x3 : Int) (σ : St), Fr S_X12_laysBestSpan σ0 σ → wp_X12_laysBestSpan_l121 Q n x1 x2 x3 σ → wp_X12_laysBestSpan_l121 Q' n x1 x2 x3 σ := by
  intro n
  induction n with
  | zero => intro _ _ _ _ _ h; exact h.elim
  | succ n ih =>
    intro x1 x2 x3 σ f0 h
    unfold wp_X12_laysBestSpan_l121 at h ⊢
    refine ⟨fun hc => ?_, fun hc => ?_⟩
    · replace h := h.1 hc
      refine mf_X12_firstPending (fun r10 σ11 h gσ11 => ?_) Fr.rf h
      have fσ11 : Fr S_X12_laysBestSpan σ0 σ11 := f0.tr gσ11 (mkS_sub (by decide) (by decide))
      exact mf_X12_laysBestSpan_l205 hq bigN _ _ _ _ fσ11 h
    · replace h := h.2 hc
      refine mf_X12_isIn (fun r12 σ13 h gσ13 => ?_) Fr.rf h
      have fσ13 : Fr S_X12_laysBestSpan σ0 σ13 := f0.tr gσ13 (mkS_sub (by decide) (by decide))
      refine ⟨fun hc => ?_, fun hc => ?_⟩
      · replace h := h.1 hc
        exact mf_X12_laysBestSpan_b194 hq ih fσ13 h
      · replace h := h.2 hc
        refine ⟨h.1, ?_⟩; replace h := h.2
        refine ⟨fun hc => ?_, fun hc => ?_⟩
        · replace h := h.1 hc
          exact mf_X12_laysBestSpan_b194 hq ih fσ13 h
        · replace h := h.2 hc
          refine ⟨h.1, ?_⟩; replace h := h.2
          refine ⟨fun hc => ?_, fun hc => ?_⟩
          · replace h := h.1 hc
            exact mf_X12_laysBestSpan_b194 hq ih fσ13 h
          · replace h := h.2 hc
            refine ⟨h.1, ?_⟩; replace h := h.2
            refine mf_X12_fits (fun r14 σ15 h gσ15 => ?_) Fr.rf h
            have fσ15 : Fr S_X12_laysBestSpan σ0 σ15 := fσ13.tr gσ15 (mkS_sub (by decide) (by decide))
            refine ⟨fun hc => ?_, fun hc => ?_⟩
            · replace h := h.1 hc
              refine mf_X12_writes (fun r16 σ17 h gσ17 => ?_) Fr.rf h
              have fσ17 : Fr S_X12_laysBestSpan σ0 σ17 := fσ15.tr gσ17 (mkS_sub (by decide) (by decide))
              refine mf_X12_waits (fun r18 σ19 h gσ19 => ?_) Fr.rf h
              have fσ19 : Fr S_X12_laysBestSpan σ0 σ19 := fσ17.tr gσ19 (mkS_sub (by decide) (by decide))
              refine mf_X12_takesNode (fun r20 σ21 h gσ21 => ?_) Fr.rf h
              have fσ21 : Fr S_X12_laysBestSpan σ0 σ21 := fσ19.tr gσ21 (mkS_sub (by decide) (by decide))
              exact mf_X12_laysBestSpan_b194 hq ih fσ21 h
            · replace h := h.2 hc
              exact mf_X12_laysBestSpan_b194 hq ih fσ15 h
set_option maxHeartbeats 1000000 in
theorem mf_X12_laysBestSpan_l53 {Q Q' : Int → St → Prop} {σ0 : St} (hq : ∀ (r : Int) (σ1 : St), Q r σ1 → Fr S_X12_laysBestSpan σ0 σ1 → Q' r σ1) : ∀ (n : Nat) (x1 : Int) (x2 : Int) (x3 : Int) (σ : St), Fr S_X12_laysBestSpan σ0 σ → wp_X12_laysBestSpan_l53 Q n x1 x2 x3 σ → wp_X12_laysBestSpan_l53 Q' n x1 x2 x3 σ := by
  intro n
  induction n with
  | zero => intro _ _ _ _ _ h; exact h.elim
  | succ n ih =>
    intro x1 x2 x3 σ f0 h
    unfold wp_X12_laysBestSpan_l53 at h ⊢
    refine ⟨fun hc => ?_, fun hc => ?_⟩
    · replace h := h.1 hc
      exact mf_X12_laysBestSpan_l121 hq bigN _ _ _ _ f0 h
    · replace h := h.2 hc
      refine mf_X12_item (fun r7 σ8 h gσ8 => ?_) Fr.rf h
      have fσ8 : Fr S_X12_laysBestSpan σ0 σ8 := f0.tr gσ8 (mkS_sub (by decide) (by decide))
      exact mf_X12_laysBestSpan_l70 hq ih bigN _ _ _ _ _ _ fσ8 h
set_option maxHeartbeats 1000000 in
theorem mf_X12_laysBestSpan_l2 {Q Q' : Int → St → Prop} {σ0 : St} (hq : ∀ (r : Int) (σ1 : St), Q r σ1 → Fr S_X12_laysBestSpan σ0 σ1 → Q' r σ1) : ∀ (n : Nat) (x1 : Int) (x2 : Int) (x3 : Int) (σ : St), Fr S_X12_laysBestSpan σ0 σ → wp_X12_laysBestSpan_l2 Q n x1 x2 x3 σ → wp_X12_laysBestSpan_l2 Q' n x1 x2 x3 σ := by
  intro n
  induction n with
  | zero => intro _ _ _ _ _ h; exact h.elim
  | succ n ih =>
    intro x1 x2 x3 σ f0 h
    unfold wp_X12_laysBestSpan_l2 at h ⊢
    refine ⟨fun hc => ?_, fun hc => ?_⟩
    · replace h := h.1 hc
      intro σ1 eσ1; replace h := h σ1 eσ1; have fσ1 : Fr S_X12_laysBestSpan σ0 σ1 := by rw [eσ1]; exact f0.up rfl
      intro σ2 eσ2; replace h := h σ2 eσ2; have fσ2 : Fr S_X12_laysBestSpan σ0 σ2 := by rw [eσ2]; exact fσ1.up rfl
      exact mf_X12_laysBestSpan_l53 hq bigN _ _ _ _ fσ2 h
    · replace h := h.2 hc
      refine mf_X12_isIn (fun r3 σ4 h gσ4 => ?_) Fr.rf h
      have fσ4 : Fr S_X12_laysBestSpan σ0 σ4 := f0.tr gσ4 (mkS_sub (by decide) (by decide))
      refine ⟨fun hc => ?_, fun hc => ?_⟩
      · replace h := h.1 hc
        exact mf_X12_laysBestSpan_b35 hq ih fσ4 h
      · replace h := h.2 hc
        refine ⟨h.1, ?_⟩; replace h := h.2
        refine ⟨fun hc => ?_, fun hc => ?_⟩
        · replace h := h.1 hc
          exact mf_X12_laysBestSpan_b35 hq ih fσ4 h
        · replace h := h.2 hc
          refine mf_X12_laysTwoBest (fun r5 σ6 h gσ6 => ?_) Fr.rf h
          have fσ6 : Fr S_X12_laysBestSpan σ0 σ6 := fσ4.tr gσ6 (mkS_sub (by decide) (by decide))
          exact mf_X12_laysBestSpan_b35 hq ih fσ6 h
set_option maxHeartbeats 1000000 in
theorem mf_X12_laysBestSpan {Q Q' : Int → St → Prop} {σ0 : St} (hq : ∀ (r : Int) (σ1 : St), Q r σ1 → Fr S_X12_laysBestSpan σ0 σ1 → Q' r σ1) {x1 x2 : Int} {σ : St} (f0 : Fr S_X12_laysBestSpan σ0 σ) (h : wp_X12_laysBestSpan x1 x2 σ Q) : wp_X12_laysBestSpan x1 x2 σ Q' := by
  unfold wp_X12_laysBestSpan at h ⊢
  exact mf_X12_laysBestSpan_l2 hq bigN _ _ _ _ f0 h
set_option maxHeartbeats 1000000 in
theorem mf_X12_laysBest_l48 {Q Q' : Int → St → Prop} {σ0 : St} (hq : ∀ (r : Int) (σ1 : St), Q r σ1 → Fr S_X12_laysBest σ0 σ1 → Q' r σ1) {K38 K38' : Int → St → Prop} (hK38 : ∀ (x1 : Int) (σ : St), Fr S_X12_laysBest σ0 σ → K38 x1 σ → K38' x1 σ) : ∀ (n : Nat) (x1 : Int) (x2 : Int) (σ : St), Fr S_X12_laysBest σ0 σ → wp_X12_laysBest_l48 Q K38 n x1 x2 σ → wp_X12_laysBest_l48 Q' K38' n x1 x2 σ := by
  intro n
  induction n with
  | zero => intro _ _ _ _ h; exact h.elim
  | succ n ih =>
    intro x1 x2 σ f0 h
    unfold wp_X12_laysBest_l48 at h ⊢
    refine ⟨fun hc => ?_, fun hc => ?_⟩
    · replace h := h.1 hc
      intro v7 ev7; replace h := h v7 ev7
      exact hK38 _ _ f0 h
    · replace h := h.2 hc
      refine mf_X12_laysBestSpan (fun r8 σ9 h gσ9 => ?_) Fr.rf h
      have fσ9 : Fr S_X12_laysBest σ0 σ9 := f0.tr gσ9 (mkS_sub (by decide) (by decide))
      intro v10 ev10; replace h := h v10 ev10
      exact ih _ _ _ fσ9 h
set_option maxHeartbeats 1000000 in
theorem mf_X12_laysBest_l38 {Q Q' : Int → St → Prop} {σ0 : St} (hq : ∀ (r : Int) (σ1 : St), Q r σ1 → Fr S_X12_laysBest σ0 σ1 → Q' r σ1) : ∀ (n : Nat) (x1 : Int) (σ : St), Fr S_X12_laysBest σ0 σ → wp_X12_laysBest_l38 Q n x1 σ → wp_X12_laysBest_l38 Q' n x1 σ := by
  intro n
  induction n with
  | zero => intro _ _ _ h; exact h.elim
  | succ n ih =>
    intro x1 σ f0 h
    unfold wp_X12_laysBest_l38 at h ⊢
    refine ⟨fun hc => ?_, fun hc => ?_⟩
    · replace h := h.1 hc
      exact hq _ _ h f0
    · replace h := h.2 hc
      exact mf_X12_laysBest_l48 hq ih bigN _ _ _ f0 h
set_option maxHeartbeats 1000000 in
theorem mf_X12_laysBest_l16 {Q Q' : Int → St → Prop} {σ0 : St} (hq : ∀ (r : Int) (σ1 : St), Q r σ1 → Fr S_X12_laysBest σ0 σ1 → Q' r σ1) : ∀ (n : Nat) (x1 : Int) (σ : St), Fr S_X12_laysBest σ0 σ → wp_X12_laysBest_l16 Q n x1 σ → wp_X12_laysBest_l16 Q' n x1 σ := by
  intro n
  induction n with
  | zero => intro _ _ _ h; exact h.elim
  | succ n ih =>
    intro x1 σ f0 h
    unfold wp_X12_laysBest_l16 at h ⊢
    refine ⟨fun hc => ?_, fun hc => ?_⟩
    · replace h := h.1 hc
      exact mf_X12_laysBest_l38 hq bigN _ _ f0 h
    · replace h := h.2 hc
      refine ⟨h.1, fun σ5 eσ5 => ?_⟩; replace h := h.2 σ5 eσ5; have fσ5 : Fr S_X12_laysBest σ0 σ5 := by rw [eσ5]; exact f0.up rfl
      intro v6 ev6; replace h := h v6 ev6
      exact ih _ _ fσ5 h
set_option maxHeartbeats 1000000 in
theorem mf_X12_laysBest {Q Q' : Int → St → Prop} {σ0 : St} (hq : ∀ (r : Int) (σ1 : St), Q r σ1 → Fr S_X12_laysBest σ0 σ1 → Q' r σ1) {σ : St} (f0 : Fr S_X12_laysBest σ0 σ) (h : wp_X12_laysBest  σ Q) : wp_X12_laysBest  σ Q' := by
  unfold wp_X12_laysBest at h ⊢
  refine mf_X12_looks (fun r1 σ2 h gσ2 => ?_) Fr.rf h
  have fσ2 : Fr S_X12_laysBest σ0 σ2 := f0.tr gσ2 (mkS_sub (by decide) (by decide))
  intro σ3 eσ3; replace h := h σ3 eσ3; have fσ3 : Fr S_X12_laysBest σ0 σ3 := by rw [eσ3]; exact fσ2.up rfl
  intro σ4 eσ4; replace h := h σ4 eσ4; have fσ4 : Fr S_X12_laysBest σ0 σ4 := by rw [eσ4]; exact fσ3.up rfl
  exact mf_X12_laysBest_l16 hq bigN _ _ fσ4 h
set_option maxHeartbeats 1000000 in
theorem mf_X12_treeOf {Q Q' : Int → St → Prop} {σ0 : St} (hq : ∀ (r : Int) (σ1 : St), Q r σ1 → Fr S_X12_treeOf σ0 σ1 → Q' r σ1) {x1 x2 x3 x4 : Int} {σ : St} (f0 : Fr S_X12_treeOf σ0 σ) (h : wp_X12_treeOf x1 x2 x3 x4 σ Q) : wp_X12_treeOf x1 x2 x3 x4 σ Q' := by
  unfold wp_X12_treeOf at h ⊢
  refine mf_X12_item (fun r1 σ2 h gσ2 => ?_) Fr.rf h
  have fσ2 : Fr S_X12_treeOf σ0 σ2 := f0.tr gσ2 (mkS_sub (by decide) (by decide))
  refine ⟨h.1, ?_⟩; replace h := h.2
  refine ⟨fun hc => ?_, fun hc => ?_⟩
  · replace h := h.1 hc
    exact hq _ _ h fσ2
  · replace h := h.2 hc
    refine ⟨h.1, ?_⟩; replace h := h.2
    exact hq _ _ h fσ2
set_option maxHeartbeats 1000000 in
theorem mf_X12_best {Q Q' : Int → St → Prop} {σ0 : St} (hq : ∀ (r : Int) (σ1 : St), Q r σ1 → Fr S_X12_best σ0 σ1 → Q' r σ1) {x1 x2 x3 x4 : Int} {σ : St} (f0 : Fr S_X12_best σ0 σ) (h : wp_X12_best x1 x2 x3 x4 σ Q) : wp_X12_best x1 x2 x3 x4 σ Q' := by
  unfold wp_X12_best at h ⊢
  refine mf_X12_isItem (fun r1 σ2 h gσ2 => ?_) Fr.rf h
  have fσ2 : Fr S_X12_best σ0 σ2 := f0.tr gσ2 (mkS_sub (by decide) (by decide))
  refine ⟨fun hc => ?_, fun hc => ?_⟩
  · replace h := h.1 hc
    exact hq _ _ h fσ2
  · replace h := h.2 hc
    refine mf_X12_isPlace (fun r3 σ4 h gσ4 => ?_) Fr.rf h
    have fσ4 : Fr S_X12_best σ0 σ4 := fσ2.tr gσ4 (mkS_sub (by decide) (by decide))
    refine ⟨fun hc => ?_, fun hc => ?_⟩
    · replace h := h.1 hc
      refine mf_X12_laysBest (fun r5 σ6 h gσ6 => ?_) Fr.rf h
      have fσ6 : Fr S_X12_best σ0 σ6 := fσ4.tr gσ6 (mkS_sub (by decide) (by decide))
      refine mf_X12_treeOf (fun r7 σ8 h gσ8 => ?_) Fr.rf h
      have fσ8 : Fr S_X12_best σ0 σ8 := fσ6.tr gσ8 (mkS_sub (by decide) (by decide))
      refine ⟨fun hc => ?_, fun hc => ?_⟩
      · replace h := h.1 hc
        refine ⟨h.1, ?_⟩; replace h := h.2
        exact hq _ _ h fσ8
      · replace h := h.2 hc
        exact hq _ _ h fσ8
    · replace h := h.2 hc
      exact hq _ _ h fσ4
set_option maxHeartbeats 1000000 in
theorem mf_X12_size {Q Q' : Int → St → Prop} {σ0 : St} (hq : ∀ (r : Int) (σ1 : St), Q r σ1 → Fr S_X12_size σ0 σ1 → Q' r σ1) {x1 x2 x3 x4 x5 : Int} {σ : St} (f0 : Fr S_X12_size σ0 σ) (h : wp_X12_size x1 x2 x3 x4 x5 σ Q) : wp_X12_size x1 x2 x3 x4 x5 σ Q' := by
  unfold wp_X12_size at h ⊢
  refine mf_X12_isItem (fun r1 σ2 h gσ2 => ?_) Fr.rf h
  have fσ2 : Fr S_X12_size σ0 σ2 := f0.tr gσ2 (mkS_sub (by decide) (by decide))
  refine ⟨fun hc => ?_, fun hc => ?_⟩
  · replace h := h.1 hc
    exact hq _ _ h fσ2
  · replace h := h.2 hc
    refine mf_X12_isPlace (fun r3 σ4 h gσ4 => ?_) Fr.rf h
    have fσ4 : Fr S_X12_size σ0 σ4 := fσ2.tr gσ4 (mkS_sub (by decide) (by decide))
    refine ⟨fun hc => ?_, fun hc => ?_⟩
    · replace h := h.1 hc
      exact hq _ _ h fσ4
    · replace h := h.2 hc
      refine mf_X12_in (fun r5 σ6 h gσ6 => ?_) Fr.rf h
      have fσ6 : Fr S_X12_size σ0 σ6 := fσ4.tr gσ6 (mkS_sub (by decide) (by decide))
      refine ⟨fun hc => ?_, fun hc => ?_⟩
      · replace h := h.1 hc
        refine mf_X12_laysBest (fun r7 σ8 h gσ8 => ?_) Fr.rf h
        have fσ8 : Fr S_X12_size σ0 σ8 := fσ6.tr gσ8 (mkS_sub (by decide) (by decide))
        refine mf_X12_treeOf (fun r9 σ10 h gσ10 => ?_) Fr.rf h
        have fσ10 : Fr S_X12_size σ0 σ10 := fσ8.tr gσ10 (mkS_sub (by decide) (by decide))
        refine ⟨fun hc => ?_, fun hc => ?_⟩
        · replace h := h.1 hc
          refine ⟨fun hc => ?_, fun hc => ?_⟩
          · replace h := h.1 hc
            refine ⟨h.1, ?_⟩; replace h := h.2
            exact hq _ _ h fσ10
          · replace h := h.2 hc
            refine ⟨h.1, ?_⟩; replace h := h.2
            exact hq _ _ h fσ10
        · replace h := h.2 hc
          exact hq _ _ h fσ10
      · replace h := h.2 hc
        exact hq _ _ h fσ6
set_option maxHeartbeats 1000000 in
theorem mf_X12_stepOf_b73 {Q Q' : Int → St → Prop} {σ0 : St} (hq : ∀ (r : Int) (σ1 : St), Q r σ1 → Fr S_X12_stepOf σ0 σ1 → Q' r σ1) {K22 K22' : Int → Int → St → Prop} (hK22 : ∀ (x3 : Int) (x4 : Int) (σ : St), Fr S_X12_stepOf σ0 σ → K22 x3 x4 σ → K22' x3 x4 σ) {x3 x4 : Int} {σ : St} (f0 : Fr S_X12_stepOf σ0 σ) (h : wp_X12_stepOf_b73 Q K22 x3 x4 σ) : wp_X12_stepOf_b73 Q' K22' x3 x4 σ := by
  unfold wp_X12_stepOf_b73 at h ⊢
  exact hK22 _ _ _ f0 h
set_option maxHeartbeats 1000000 in
theorem mf_X12_stepOf_l22 {Q Q' : Int → St → Prop} {σ0 : St} (hq : ∀ (r : Int) (σ1 : St), Q r σ1 → Fr S_X12_stepOf σ0 σ1 → Q' r σ1) : ∀ (n : Nat) (x3 : Int) (x4 : Int) (σ : St), Fr S_X12_stepOf σ0 σ → wp_X12_stepOf_l22 Q n x3 x4 σ → wp_X12_stepOf_l22 Q' n x3 x4 σ := by
  intro n
  induction n with
  | zero => intro _ _ _ _ h; exact h.elim
  | succ n ih =>
    intro x3 x4 σ f0 h
    unfold wp_X12_stepOf_l22 at h ⊢
    refine ⟨fun hc => ?_, fun hc => ?_⟩
    · replace h := h.1 hc
      exact hq _ _ h f0
    · replace h := h.2 hc
      intro v1 ev1; replace h := h v1 ev1
      refine ⟨h.1, ?_⟩; replace h := h.2
      refine mf_X12_stepsNode (fun r2 σ3 h gσ3 => ?_) Fr.rf h
      have fσ3 : Fr S_X12_stepOf σ0 σ3 := f0.tr gσ3 (mkS_sub (by decide) (by decide))
      refine ⟨fun hc => ?_, fun hc => ?_⟩
      · replace h := h.1 hc
        intro v4 ev4; replace h := h v4 ev4
        refine ⟨h.1, ?_⟩; replace h := h.2
        intro v5 ev5; replace h := h v5 ev5
        exact mf_X12_stepOf_b73 hq ih fσ3 h
      · replace h := h.2 hc
        refine ⟨h.1, ?_⟩; replace h := h.2
        intro v6 ev6; replace h := h v6 ev6
        exact mf_X12_stepOf_b73 hq ih fσ3 h
set_option maxHeartbeats 1000000 in
theorem mf_X12_stepOf {Q Q' : Int → St → Prop} {σ0 : St} (hq : ∀ (r : Int) (σ1 : St), Q r σ1 → Fr S_X12_stepOf σ0 σ1 → Q' r σ1) {x1 x2 : Int} {σ : St} (f0 : Fr S_X12_stepOf σ0 σ) (h : wp_X12_stepOf x1 x2 σ Q) : wp_X12_stepOf x1 x2 σ Q' := by
  unfold wp_X12_stepOf at h ⊢
  refine ⟨fun hc => ?_, fun hc => ?_⟩
  · replace h := h.1 hc
    exact hq _ _ h f0
  · replace h := h.2 hc
    refine ⟨h.1, ?_⟩; replace h := h.2
    refine ⟨fun hc => ?_, fun hc => ?_⟩
    · replace h := h.1 hc
      exact mf_X12_stepOf_l22 hq bigN _ _ _ f0 h
    · replace h := h.2 hc
      exact hq _ _ h f0
set_option maxHeartbeats 1000000 in
theorem mf_X12_step {Q Q' : Int → St → Prop} {σ0 : St} (hq : ∀ (r : Int) (σ1 : St), Q r σ1 → Fr S_X12_step σ0 σ1 → Q' r σ1) {x1 x2 x3 x4 x5 : Int} {σ : St} (f0 : Fr S_X12_step σ0 σ) (h : wp_X12_step x1 x2 x3 x4 x5 σ Q) : wp_X12_step x1 x2 x3 x4 x5 σ Q' := by
  unfold wp_X12_step at h ⊢
  refine mf_X12_isItem (fun r1 σ2 h gσ2 => ?_) Fr.rf h
  have fσ2 : Fr S_X12_step σ0 σ2 := f0.tr gσ2 (mkS_sub (by decide) (by decide))
  refine ⟨fun hc => ?_, fun hc => ?_⟩
  · replace h := h.1 hc
    exact hq _ _ h fσ2
  · replace h := h.2 hc
    refine mf_X12_isPlace (fun r3 σ4 h gσ4 => ?_) Fr.rf h
    have fσ4 : Fr S_X12_step σ0 σ4 := fσ2.tr gσ4 (mkS_sub (by decide) (by decide))
    refine ⟨fun hc => ?_, fun hc => ?_⟩
    · replace h := h.1 hc
      exact hq _ _ h fσ4
    · replace h := h.2 hc
      refine ⟨fun hc => ?_, fun hc => ?_⟩
      · replace h := h.1 hc
        refine mf_X12_laysBest (fun r5 σ6 h gσ6 => ?_) Fr.rf h
        have fσ6 : Fr S_X12_step σ0 σ6 := fσ4.tr gσ6 (mkS_sub (by decide) (by decide))
        refine mf_X12_treeOf (fun r7 σ8 h gσ8 => ?_) Fr.rf h
        have fσ8 : Fr S_X12_step σ0 σ8 := fσ6.tr gσ8 (mkS_sub (by decide) (by decide))
        refine mf_X12_stepOf (fun r9 σ10 h gσ10 => ?_) Fr.rf h
        have fσ10 : Fr S_X12_step σ0 σ10 := fσ8.tr gσ10 (mkS_sub (by decide) (by decide))
        refine ⟨fun hc => ?_, fun hc => ?_⟩
        · replace h := h.1 hc
          refine ⟨h.1, ?_⟩; replace h := h.2
          exact hq _ _ h fσ10
        · replace h := h.2 hc
          exact hq _ _ h fσ10
      · replace h := h.2 hc
        exact hq _ _ h fσ4
set_option maxHeartbeats 1000000 in
theorem mf_X12_start {Q Q' : Int → St → Prop} {σ0 : St} (hq : ∀ (r : Int) (σ1 : St), Q r σ1 → Fr S_X12_start σ0 σ1 → Q' r σ1) {σ : St} (f0 : Fr S_X12_start σ0 σ) (h : wp_X12_start  σ Q) : wp_X12_start  σ Q' := by
  unfold wp_X12_start at h ⊢
  refine ⟨fun hc => ?_, fun hc => ?_⟩
  · replace h := h.1 hc
    exact hq _ _ h f0
  · replace h := h.2 hc
    exact hq _ _ h f0
set_option maxHeartbeats 1000000 in
theorem mf_X12_bounds {Q Q' : Int → St → Prop} {σ0 : St} (hq : ∀ (r : Int) (σ1 : St), Q r σ1 → Fr S_X12_bounds σ0 σ1 → Q' r σ1) {x1 x2 x3 : Int} {σ : St} (f0 : Fr S_X12_bounds σ0 σ) (h : wp_X12_bounds x1 x2 x3 σ Q) : wp_X12_bounds x1 x2 x3 σ Q' := by
  unfold wp_X12_bounds at h ⊢
  refine mf_X12_isPlace (fun r1 σ2 h gσ2 => ?_) Fr.rf h
  have fσ2 : Fr S_X12_bounds σ0 σ2 := f0.tr gσ2 (mkS_sub (by decide) (by decide))
  refine ⟨fun hc => ?_, fun hc => ?_⟩
  · replace h := h.1 hc
    exact hq _ _ h fσ2
  · replace h := h.2 hc
    refine ⟨fun hc => ?_, fun hc => ?_⟩
    · replace h := h.1 hc
      exact hq _ _ h fσ2
    · replace h := h.2 hc
      refine mf_X12_in (fun r3 σ4 h gσ4 => ?_) Fr.rf h
      have fσ4 : Fr S_X12_bounds σ0 σ4 := fσ2.tr gσ4 (mkS_sub (by decide) (by decide))
      refine ⟨fun hc => ?_, fun hc => ?_⟩
      · replace h := h.1 hc
        refine ⟨fun hc => ?_, fun hc => ?_⟩
        · replace h := h.1 hc
          exact hq _ _ h fσ4
        · replace h := h.2 hc
          refine ⟨fun hc => ?_, fun hc => ?_⟩
          · replace h := h.1 hc
            refine mf_X12_laysBest (fun r5 σ6 h gσ6 => ?_) Fr.rf h
            have fσ6 : Fr S_X12_bounds σ0 σ6 := fσ4.tr gσ6 (mkS_sub (by decide) (by decide))
            refine mf_X12_start (fun r7 σ8 h gσ8 => ?_) Fr.rf h
            have fσ8 : Fr S_X12_bounds σ0 σ8 := fσ6.tr gσ8 (mkS_sub (by decide) (by decide))
            refine mf_X12_treeOf (fun r9 σ10 h gσ10 => ?_) Fr.rf h
            have fσ10 : Fr S_X12_bounds σ0 σ10 := fσ8.tr gσ10 (mkS_sub (by decide) (by decide))
            refine mf_X12_stepOf (fun r11 σ12 h gσ12 => ?_) Fr.rf h
            have fσ12 : Fr S_X12_bounds σ0 σ12 := fσ10.tr gσ12 (mkS_sub (by decide) (by decide))
            refine ⟨fun hc => ?_, fun hc => ?_⟩
            · replace h := h.1 hc
              refine ⟨fun hc => ?_, fun hc => ?_⟩
              · replace h := h.1 hc
                refine ⟨fun hc => ?_, fun hc => ?_⟩
                · replace h := h.1 hc
                  refine ⟨h.1, ?_⟩; replace h := h.2
                  exact hq _ _ h fσ12
                · replace h := h.2 hc
                  refine ⟨h.1, ?_⟩; replace h := h.2
                  exact hq _ _ h fσ12
              · replace h := h.2 hc
                refine ⟨h.1, ?_⟩; replace h := h.2
                exact hq _ _ h fσ12
            · replace h := h.2 hc
              exact hq _ _ h fσ12
          · replace h := h.2 hc
            exact hq _ _ h fσ4
      · replace h := h.2 hc
        exact hq _ _ h fσ4
set_option maxHeartbeats 1000000 in
theorem mf_X12_areAlike_b74 {Q Q' : Int → St → Prop} {σ0 : St} (hq : ∀ (r : Int) (σ1 : St), Q r σ1 → Fr S_X12_areAlike σ0 σ1 → Q' r σ1) {σ : St} (f0 : Fr S_X12_areAlike σ0 σ) (h : wp_X12_areAlike_b74 Q  σ) : wp_X12_areAlike_b74 Q'  σ := by
  unfold wp_X12_areAlike_b74 at h ⊢
  exact hq _ _ h f0
set_option maxHeartbeats 1000000 in
theorem mf_X12_areAlike {Q Q' : Int → St → Prop} {σ0 : St} (hq : ∀ (r : Int) (σ1 : St), Q r σ1 → Fr S_X12_areAlike σ0 σ1 → Q' r σ1) {x1 x2 : Int} {σ : St} (f0 : Fr S_X12_areAlike σ0 σ) (h : wp_X12_areAlike x1 x2 σ Q) : wp_X12_areAlike x1 x2 σ Q' := by
  unfold wp_X12_areAlike at h ⊢
  refine ⟨fun hc => ?_, fun hc => ?_⟩
  · replace h := h.1 hc
    exact mf_X12_areAlike_b74 hq f0 h
  · replace h := h.2 hc
    refine ⟨fun hc => ?_, fun hc => ?_⟩
    · replace h := h.1 hc
      exact mf_X12_areAlike_b74 hq f0 h
    · replace h := h.2 hc
      refine ⟨h.1, ?_⟩; replace h := h.2
      refine ⟨h.1, ?_⟩; replace h := h.2
      refine ⟨fun hc => ?_, fun hc => ?_⟩
      · replace h := h.1 hc
        exact mf_X12_areAlike_b74 hq f0 h
      · replace h := h.2 hc
        refine ⟨h.1, ?_⟩; replace h := h.2
        refine ⟨h.1, ?_⟩; replace h := h.2
        refine ⟨fun hc => ?_, fun hc => ?_⟩
        · replace h := h.1 hc
          exact mf_X12_areAlike_b74 hq f0 h
        · replace h := h.2 hc
          refine ⟨h.1, ?_⟩; replace h := h.2
          refine ⟨h.1, ?_⟩; replace h := h.2
          refine ⟨fun hc => ?_, fun hc => ?_⟩
          · replace h := h.1 hc
            exact mf_X12_areAlike_b74 hq f0 h
          · replace h := h.2 hc
            refine ⟨h.1, ?_⟩; replace h := h.2
            refine ⟨h.1, ?_⟩; replace h := h.2
            refine ⟨fun hc => ?_, fun hc => ?_⟩
            · replace h := h.1 hc
              exact mf_X12_areAlike_b74 hq f0 h
            · replace h := h.2 hc
              exact hq _ _ h f0
set_option maxHeartbeats 1000000 in
theorem mf_X12_alike_l72 {Q Q' : Int → St → Prop} {σ0 : St} (hq : ∀ (r : Int) (σ1 : St), Q r σ1 → Fr S_X12_alike σ0 σ1 → Q' r σ1) : ∀ (n : Nat) (x6 : Int) (x7 : Int) (x8 : Int) (σ : St), Fr S_X12_alike σ0 σ → wp_X12_alike_l72 Q n x6 x7 x8 σ → wp_X12_alike_l72 Q' n x6 x7 x8 σ := by
  intro n
  induction n with
  | zero => intro _ _ _ _ _ h; exact h.elim
  | succ n ih =>
    intro x6 x7 x8 σ f0 h
    unfold wp_X12_alike_l72 at h ⊢
    refine mf_X12_stepOf (fun r13 σ14 h gσ14 => ?_) Fr.rf h
    have fσ14 : Fr S_X12_alike σ0 σ14 := f0.tr gσ14 (mkS_sub (by decide) (by decide))
    refine mf_X12_stepOf (fun r15 σ16 h gσ16 => ?_) Fr.rf h
    have fσ16 : Fr S_X12_alike σ0 σ16 := fσ14.tr gσ16 (mkS_sub (by decide) (by decide))
    refine mf_X12_areAlike (fun r17 σ18 h gσ18 => ?_) Fr.rf h
    have fσ18 : Fr S_X12_alike σ0 σ18 := fσ16.tr gσ18 (mkS_sub (by decide) (by decide))
    refine ⟨fun hc => ?_, fun hc => ?_⟩
    · replace h := h.1 hc
      exact hq _ _ h fσ18
    · replace h := h.2 hc
      intro v19 ev19; replace h := h v19 ev19
      exact ih _ _ _ _ fσ18 h
set_option maxHeartbeats 1000000 in
theorem mf_X12_alike {Q Q' : Int → St → Prop} {σ0 : St} (hq : ∀ (r : Int) (σ1 : St), Q r σ1 → Fr S_X12_alike σ0 σ1 → Q' r σ1) {x1 x2 x3 x4 x5 : Int} {σ : St} (f0 : Fr S_X12_alike σ0 σ) (h : wp_X12_alike x1 x2 x3 x4 x5 σ Q) : wp_X12_alike x1 x2 x3 x4 x5 σ Q' := by
  unfold wp_X12_alike at h ⊢
  refine mf_X12_isItem (fun r1 σ2 h gσ2 => ?_) Fr.rf h
  have fσ2 : Fr S_X12_alike σ0 σ2 := f0.tr gσ2 (mkS_sub (by decide) (by decide))
  refine ⟨fun hc => ?_, fun hc => ?_⟩
  · replace h := h.1 hc
    exact hq _ _ h fσ2
  · replace h := h.2 hc
    refine mf_X12_isPlace (fun r3 σ4 h gσ4 => ?_) Fr.rf h
    have fσ4 : Fr S_X12_alike σ0 σ4 := fσ2.tr gσ4 (mkS_sub (by decide) (by decide))
    refine ⟨fun hc => ?_, fun hc => ?_⟩
    · replace h := h.1 hc
      exact hq _ _ h fσ4
    · replace h := h.2 hc
      refine mf_X12_isPlace (fun r5 σ6 h gσ6 => ?_) Fr.rf h
      have fσ6 : Fr S_X12_alike σ0 σ6 := fσ4.tr gσ6 (mkS_sub (by decide) (by decide))
      refine ⟨fun hc => ?_, fun hc => ?_⟩
      · replace h := h.1 hc
        refine mf_X12_laysBest (fun r7 σ8 h gσ8 => ?_) Fr.rf h
        have fσ8 : Fr S_X12_alike σ0 σ8 := fσ6.tr gσ8 (mkS_sub (by decide) (by decide))
        refine mf_X12_treeOf (fun r9 σ10 h gσ10 => ?_) Fr.rf h
        have fσ10 : Fr S_X12_alike σ0 σ10 := fσ8.tr gσ10 (mkS_sub (by decide) (by decide))
        refine mf_X12_treeOf (fun r11 σ12 h gσ12 => ?_) Fr.rf h
        have fσ12 : Fr S_X12_alike σ0 σ12 := fσ10.tr gσ12 (mkS_sub (by decide) (by decide))
        refine ⟨fun hc => ?_, fun hc => ?_⟩
        · replace h := h.1 hc
          exact hq _ _ h fσ12
        · replace h := h.2 hc
          refine ⟨fun hc => ?_, fun hc => ?_⟩
          · replace h := h.1 hc
            exact mf_X12_alike_l72 hq bigN _ _ _ _ fσ12 h
          · replace h := h.2 hc
            exact hq _ _ h fσ12
      · replace h := h.2 hc
        exact hq _ _ h fσ6
set_option maxHeartbeats 1000000 in
theorem mf_X12_puts {Q Q' : Int → St → Prop} {σ0 : St} (hq : ∀ (r : Int) (σ1 : St), Q r σ1 → Fr S_X12_puts σ0 σ1 → Q' r σ1) {x1 : Int} {σ : St} (f0 : Fr S_X12_puts σ0 σ) (h : wp_X12_puts x1 σ Q) : wp_X12_puts x1 σ Q' := by
  unfold wp_X12_puts at h ⊢
  refine ⟨h.1, fun σ1 eσ1 => ?_⟩; replace h := h.2 σ1 eσ1; have fσ1 : Fr S_X12_puts σ0 σ1 := by rw [eσ1]; exact f0.up rfl
  intro σ2 eσ2; replace h := h σ2 eσ2; have fσ2 : Fr S_X12_puts σ0 σ2 := by rw [eσ2]; exact fσ1.up rfl
  exact hq _ _ h fσ2
set_option maxHeartbeats 1000000 in
theorem mf_X12_tellsPart {Q Q' : Int → St → Prop} {σ0 : St} (hq : ∀ (r : Int) (σ1 : St), Q r σ1 → Fr S_X12_tellsPart σ0 σ1 → Q' r σ1) {M : Int → St → (Int → St → Prop) → Prop} (hM : ∀ (x1 : Int) (σ : St) {Q Q' : Int → St → Prop}, (∀ (r : Int) (σ1 : St), Q r σ1 → Fr S_X12_tells σ σ1 → Q' r σ1) → M x1 σ Q → M x1 σ Q') {x1 x2 : Int} {σ : St} (f0 : Fr S_X12_tellsPart σ0 σ) (h : wp_X12_tellsPart M x1 x2 σ Q) : wp_X12_tellsPart M x1 x2 σ Q' := by
  unfold wp_X12_tellsPart at h ⊢
  refine mf_X12_puts (fun r1 σ2 h gσ2 => ?_) Fr.rf h
  have fσ2 : Fr S_X12_tellsPart σ0 σ2 := f0.tr gσ2 (mkS_sub (by decide) (by decide))
  refine ⟨fun hc => ?_, fun hc => ?_⟩
  · replace h := h.1 hc
    refine hM _ _ (fun r3 σ4 h gσ4 => ?_) h
    have fσ4 : Fr S_X12_tellsPart σ0 σ4 := fσ2.tr gσ4 (mkS_sub (by decide) (by decide))
    exact hq _ _ h fσ4
  · replace h := h.2 hc
    refine mf_X12_puts (fun r5 σ6 h gσ6 => ?_) Fr.rf h
    have fσ6 : Fr S_X12_tellsPart σ0 σ6 := fσ2.tr gσ6 (mkS_sub (by decide) (by decide))
    exact hq _ _ h fσ6
set_option maxHeartbeats 1000000 in
theorem mf_X12_tells_b68 {Q Q' : Int → St → Prop} {σ0 : St} (hq : ∀ (r : Int) (σ1 : St), Q r σ1 → Fr S_X12_tells σ0 σ1 → Q' r σ1) {M : Int → St → (Int → St → Prop) → Prop} (hM : ∀ (x1 : Int) (σ : St) {Q Q' : Int → St → Prop}, (∀ (r : Int) (σ1 : St), Q r σ1 → Fr S_X12_tells σ σ1 → Q' r σ1) → M x1 σ Q → M x1 σ Q') {σ : St} (f0 : Fr S_X12_tells σ0 σ) (h : wp_X12_tells_b68 M Q  σ) : wp_X12_tells_b68 M Q'  σ := by
  unfold wp_X12_tells_b68 at h ⊢
  refine mf_X12_puts (fun r10 σ11 h gσ11 => ?_) Fr.rf h
  have fσ11 : Fr S_X12_tells σ0 σ11 := f0.tr gσ11 (mkS_sub (by decide) (by decide))
  exact hq _ _ h fσ11
set_option maxHeartbeats 1000000 in
theorem mf_X12_tells_e {Q Q' : Int → St → Prop} {σ0 : St} (hq : ∀ (r : Int) (σ1 : St), Q r σ1 → Fr S_X12_tells σ0 σ1 → Q' r σ1) {M : Int → St → (Int → St → Prop) → Prop} (hM : ∀ (x1 : Int) (σ : St) {Q Q' : Int → St → Prop}, (∀ (r : Int) (σ1 : St), Q r σ1 → Fr S_X12_tells σ σ1 → Q' r σ1) → M x1 σ Q → M x1 σ Q') {x1 : Int} {σ : St} (f0 : Fr S_X12_tells σ0 σ) (h : (0 ≤ x1 ∧ x1 < 40000) ∧ ∀ v1 : Int, v1 = σ 28 (x1.toNat) → wp_X12_puts 40 σ (fun r2 σ3 => (0 ≤ v1 ∧ v1 < 80) ∧ wp_X12_puts (w32 (65 + (σ3 1 (v1.toNat)))) σ3 (fun r4 σ5 => (0 ≤ v1 ∧ v1 < 80) ∧ (0 ≤ x1 ∧ x1 < 40000) ∧ wp_X12_tellsPart M (σ5 2 (v1.toNat)) (σ5 32 (x1.toNat)) σ5 (fun r6 σ7 => (0 ≤ v1 ∧ v1 < 80) ∧ ((σ7 3 (v1.toNat) = (-1)) → wp_X12_tells_b68 M Q σ7) ∧ (¬ (σ7 3 (v1.toNat) = (-1)) → (0 ≤ v1 ∧ v1 < 80) ∧ (0 ≤ x1 ∧ x1 < 40000) ∧ wp_X12_tellsPart M (σ7 3 (v1.toNat)) (σ7 33 (x1.toNat)) σ7 (fun r8 σ9 => wp_X12_tells_b68 M Q σ9)))))) : (0 ≤ x1 ∧ x1 < 40000) ∧ ∀ v1 : Int, v1 = σ 28 (x1.toNat) → wp_X12_puts 40 σ (fun r2 σ3 => (0 ≤ v1 ∧ v1 < 80) ∧ wp_X12_puts (w32 (65 + (σ3 1 (v1.toNat)))) σ3 (fun r4 σ5 => (0 ≤ v1 ∧ v1 < 80) ∧ (0 ≤ x1 ∧ x1 < 40000) ∧ wp_X12_tellsPart M (σ5 2 (v1.toNat)) (σ5 32 (x1.toNat)) σ5 (fun r6 σ7 => (0 ≤ v1 ∧ v1 < 80) ∧ ((σ7 3 (v1.toNat) = (-1)) → wp_X12_tells_b68 M Q' σ7) ∧ (¬ (σ7 3 (v1.toNat) = (-1)) → (0 ≤ v1 ∧ v1 < 80) ∧ (0 ≤ x1 ∧ x1 < 40000) ∧ wp_X12_tellsPart M (σ7 3 (v1.toNat)) (σ7 33 (x1.toNat)) σ7 (fun r8 σ9 => wp_X12_tells_b68 M Q' σ9))))) := by
  refine ⟨h.1, ?_⟩; replace h := h.2
  intro v1 ev1; replace h := h v1 ev1
  refine mf_X12_puts (fun r2 σ3 h gσ3 => ?_) Fr.rf h
  have fσ3 : Fr S_X12_tells σ0 σ3 := f0.tr gσ3 (mkS_sub (by decide) (by decide))
  refine ⟨h.1, ?_⟩; replace h := h.2
  refine mf_X12_puts (fun r4 σ5 h gσ5 => ?_) Fr.rf h
  have fσ5 : Fr S_X12_tells σ0 σ5 := fσ3.tr gσ5 (mkS_sub (by decide) (by decide))
  refine ⟨h.1, ?_⟩; replace h := h.2
  refine ⟨h.1, ?_⟩; replace h := h.2
  refine mf_X12_tellsPart (fun r6 σ7 h gσ7 => ?_) hM Fr.rf h
  have fσ7 : Fr S_X12_tells σ0 σ7 := fσ5.tr gσ7 (mkS_sub (by decide) (by decide))
  refine ⟨h.1, ?_⟩; replace h := h.2
  refine ⟨fun hc => ?_, fun hc => ?_⟩
  · replace h := h.1 hc
    exact mf_X12_tells_b68 hq hM fσ7 h
  · replace h := h.2 hc
    refine ⟨h.1, ?_⟩; replace h := h.2
    refine ⟨h.1, ?_⟩; replace h := h.2
    refine mf_X12_tellsPart (fun r8 σ9 h gσ9 => ?_) hM Fr.rf h
    have fσ9 : Fr S_X12_tells σ0 σ9 := fσ7.tr gσ9 (mkS_sub (by decide) (by decide))
    exact mf_X12_tells_b68 hq hM fσ9 h
set_option maxHeartbeats 1000000 in
theorem mf_X12_tells_r : ∀ (d : Nat) (x1 : Int) (σ : St) {Q Q' : Int → St → Prop}, (∀ (r : Int) (σ1 : St), Q r σ1 → Fr S_X12_tells σ σ1 → Q' r σ1) → wp_X12_tells d x1 σ Q → wp_X12_tells d x1 σ Q' := by
  intro d
  induction d with
  | zero => intro _ _ _ _ _ h; exact h.elim
  | succ d ih =>
    intro x1 σ Q Q' hq h
    unfold wp_X12_tells at h ⊢
    exact mf_X12_tells_e hq ih Fr.rf h
theorem mf_X12_tells {d : Nat} {Q Q' : Int → St → Prop} {σ0 : St} (hq : ∀ (r : Int) (σ1 : St), Q r σ1 → Fr S_X12_tells σ0 σ1 → Q' r σ1) {x1 : Int} {σ : St} (f0 : Fr S_X12_tells σ0 σ) (h : wp_X12_tells d x1 σ Q) : wp_X12_tells d x1 σ Q' := mf_X12_tells_r d x1 σ (fun r σ1 g1 g2 => hq r σ1 g1 (f0.tr g2 (fun _ _ h => h))) h
set_option maxHeartbeats 1000000 in
theorem mf_X12_tell {Q Q' : Int → St → Prop} {σ0 : St} (hq : ∀ (r : Int) (σ1 : St), Q r σ1 → Fr S_X12_tell σ0 σ1 → Q' r σ1) {x1 x2 x3 x4 : Int} {σ : St} (f0 : Fr S_X12_tell σ0 σ) (h : wp_X12_tell x1 x2 x3 x4 σ Q) : wp_X12_tell x1 x2 x3 x4 σ Q' := by
  unfold wp_X12_tell at h ⊢
  refine mf_X12_isItem (fun r1 σ2 h gσ2 => ?_) Fr.rf h
  have fσ2 : Fr S_X12_tell σ0 σ2 := f0.tr gσ2 (mkS_sub (by decide) (by decide))
  refine ⟨fun hc => ?_, fun hc => ?_⟩
  · replace h := h.1 hc
    exact hq _ _ h fσ2
  · replace h := h.2 hc
    refine mf_X12_isPlace (fun r3 σ4 h gσ4 => ?_) Fr.rf h
    have fσ4 : Fr S_X12_tell σ0 σ4 := fσ2.tr gσ4 (mkS_sub (by decide) (by decide))
    refine ⟨fun hc => ?_, fun hc => ?_⟩
    · replace h := h.1 hc
      refine mf_X12_laysBest (fun r5 σ6 h gσ6 => ?_) Fr.rf h
      have fσ6 : Fr S_X12_tell σ0 σ6 := fσ4.tr gσ6 (mkS_sub (by decide) (by decide))
      refine mf_X12_treeOf (fun r7 σ8 h gσ8 => ?_) Fr.rf h
      have fσ8 : Fr S_X12_tell σ0 σ8 := fσ6.tr gσ8 (mkS_sub (by decide) (by decide))
      refine ⟨fun hc => ?_, fun hc => ?_⟩
      · replace h := h.1 hc
        intro σ9 eσ9; replace h := h σ9 eσ9; have fσ9 : Fr S_X12_tell σ0 σ9 := by rw [eσ9]; exact fσ8.up rfl
        refine mf_X12_tells (fun r10 σ11 h gσ11 => ?_) Fr.rf h
        have fσ11 : Fr S_X12_tell σ0 σ11 := fσ9.tr gσ11 (mkS_sub (by decide) (by decide))
        exact hq _ _ h fσ11
      · replace h := h.2 hc
        exact hq _ _ h fσ8
    · replace h := h.2 hc
      exact hq _ _ h fσ4
set_option maxHeartbeats 1000000 in
theorem mf_X12_octet {Q Q' : Int → St → Prop} {σ0 : St} (hq : ∀ (r : Int) (σ1 : St), Q r σ1 → Fr S_X12_octet σ0 σ1 → Q' r σ1) {x1 : Int} {σ : St} (f0 : Fr S_X12_octet σ0 σ) (h : wp_X12_octet x1 σ Q) : wp_X12_octet x1 σ Q' := by
  unfold wp_X12_octet at h ⊢
  refine mf_X12_in (fun r1 σ2 h gσ2 => ?_) Fr.rf h
  have fσ2 : Fr S_X12_octet σ0 σ2 := f0.tr gσ2 (mkS_sub (by decide) (by decide))
  refine ⟨fun hc => ?_, fun hc => ?_⟩
  · replace h := h.1 hc
    exact hq _ _ h fσ2
  · replace h := h.2 hc
    refine ⟨h.1, ?_⟩; replace h := h.2
    exact hq _ _ h fσ2
set_option maxHeartbeats 1000000 in
theorem mf_X12_cheapPart_b25 {Q Q' : Int → St → Prop} {σ0 : St} (hq : ∀ (r : Int) (σ1 : St), Q r σ1 → Fr S_X12_cheapPart σ0 σ1 → Q' r σ1) {σ : St} (f0 : Fr S_X12_cheapPart σ0 σ) (h : wp_X12_cheapPart_b25 Q  σ) : wp_X12_cheapPart_b25 Q'  σ := by
  unfold wp_X12_cheapPart_b25 at h ⊢
  exact hq _ _ h f0
set_option maxHeartbeats 1000000 in
theorem mf_X12_cheapPart {Q Q' : Int → St → Prop} {σ0 : St} (hq : ∀ (r : Int) (σ1 : St), Q r σ1 → Fr S_X12_cheapPart σ0 σ1 → Q' r σ1) {x1 x2 x3 x4 : Int} {σ : St} (f0 : Fr S_X12_cheapPart σ0 σ) (h : wp_X12_cheapPart x1 x2 x3 x4 σ Q) : wp_X12_cheapPart x1 x2 x3 x4 σ Q' := by
  unfold wp_X12_cheapPart at h ⊢
  refine ⟨fun hc => ?_, fun hc => ?_⟩
  · replace h := h.1 hc
    refine ⟨fun hc => ?_, fun hc => ?_⟩
    · replace h := h.1 hc
      refine mf_X12_item (fun r1 σ2 h gσ2 => ?_) Fr.rf h
      have fσ2 : Fr S_X12_cheapPart σ0 σ2 := f0.tr gσ2 (mkS_sub (by decide) (by decide))
      refine ⟨h.1, ?_⟩; replace h := h.2
      exact hq _ _ h fσ2
    · replace h := h.2 hc
      exact hq _ _ h f0
  · replace h := h.2 hc
    refine ⟨fun hc => ?_, fun hc => ?_⟩
    · replace h := h.1 hc
      exact mf_X12_cheapPart_b25 hq f0 h
    · replace h := h.2 hc
      refine mf_X12_fits (fun r3 σ4 h gσ4 => ?_) Fr.rf h
      have fσ4 : Fr S_X12_cheapPart σ0 σ4 := f0.tr gσ4 (mkS_sub (by decide) (by decide))
      refine ⟨fun hc => ?_, fun hc => ?_⟩
      · replace h := h.1 hc
        exact mf_X12_cheapPart_b25 hq fσ4 h
      · replace h := h.2 hc
        exact hq _ _ h fσ4
set_option maxHeartbeats 1000000 in
theorem mf_X12_cheapTwos_b147 {Q Q' : Int → St → Prop} {σ0 : St} (hq : ∀ (r : Int) (σ1 : St), Q r σ1 → Fr S_X12_cheapTwos σ0 σ1 → Q' r σ1) {K8 K8' : Int → Int → Int → Int → Int → Int → St → Prop} (hK8 : ∀ (x1 : Int) (x2 : Int) (x3 : Int) (x4 : Int) (x5 : Int) (x7 : Int) (σ : St), Fr S_X12_cheapTwos σ0 σ → K8 x1 x2 x3 x4 x5 x7 σ → K8' x1 x2 x3 x4 x5 x7 σ) {K86 K86' : Int → Int → Int → Int → Int → Int → Int → Int → St → Prop} (hK86 : ∀ (x1 : Int) (x2 : Int) (x3 : Int) (x4 : Int) (x5 : Int) (x7 : Int) (x9 : Int) (x10 : Int) (σ : St), Fr S_X12_cheapTwos σ0 σ → K86 x1 x2 x3 x4 x5 x7 x9 x10 σ → K86' x1 x2 x3 x4 x5 x7 x9 x10 σ) {x1 x2 x3 x4 x5 x7 x9 x10 : Int} {σ : St} (f0 : Fr S_X12_cheapTwos σ0 σ) (h : wp_X12_cheapTwos_b147 Q K8 K86 x1 x2 x3 x4 x5 x7 x9 x10 σ) : wp_X12_cheapTwos_b147 Q' K8' K86' x1 x2 x3 x4 x5 x7 x9 x10 σ := by
  unfold wp_X12_cheapTwos_b147 at h ⊢
  intro v20 ev20; replace h := h v20 ev20
  exact hK86 _ _ _ _ _ _ _ _ _ f0 h
set_option maxHeartbeats 1000000 in
theorem mf_X12_cheapTwos_b153 {Q Q' : Int → St → Prop} {σ0 : St} (hq : ∀ (r : Int) (σ1 : St), Q r σ1 → Fr S_X12_cheapTwos σ0 σ1 → Q' r σ1) {K8 K8' : Int → Int → Int → Int → Int → Int → St → Prop} (hK8 : ∀ (x1 : Int) (x2 : Int) (x3 : Int) (x4 : Int) (x5 : Int) (x7 : Int) (σ : St), Fr S_X12_cheapTwos σ0 σ → K8 x1 x2 x3 x4 x5 x7 σ → K8' x1 x2 x3 x4 x5 x7 σ) {x1 x2 x3 x4 x5 x7 : Int} {σ : St} (f0 : Fr S_X12_cheapTwos σ0 σ) (h : wp_X12_cheapTwos_b153 Q K8 x1 x2 x3 x4 x5 x7 σ) : wp_X12_cheapTwos_b153 Q' K8' x1 x2 x3 x4 x5 x7 σ := by
  unfold wp_X12_cheapTwos_b153 at h ⊢
  intro v11 ev11; replace h := h v11 ev11
  exact hK8 _ _ _ _ _ _ _ f0 h
set_option maxHeartbeats 1000000 in
theorem mf_X12_cheapTwos_l86 {Q Q' : Int → St → Prop} {σ0 : St} (hq : ∀ (r : Int) (σ1 : St), Q r σ1 → Fr S_X12_cheapTwos σ0 σ1 → Q' r σ1) {K8 K8' : Int → Int → Int → Int → Int → Int → St → Prop} (hK8 : ∀ (x1 : Int) (x2 : Int) (x3 : Int) (x4 : Int) (x5 : Int) (x7 : Int) (σ : St), Fr S_X12_cheapTwos σ0 σ → K8 x1 x2 x3 x4 x5 x7 σ → K8' x1 x2 x3 x4 x5 x7 σ) : ∀ (n : Nat) (x1 : Int) (x2 : Int) (x3 : Int) (x4 : Int) (x5 : Int) (x7 : Int) (x9 : Int) (x10 : Int) (σ : St), Fr S_X12_cheapTwos σ0 σ → wp_X12_cheapTwos_l86 Q K8 n x1 x2 x3 x4 x5 x7 x9 x10 σ → wp_X12_cheapTwos_l86 Q' K8' n x1 x2 x3 x4 x5 x7 x9 x10 σ := by
  intro n
  induction n with
  | zero => intro _ _ _ _ _ _ _ _ _ _ h; exact h.elim
  | succ n ih =>
    intro x1 x2 x3 x4 x5 x7 x9 x10 σ f0 h
    unfold wp_X12_cheapTwos_l86 at h ⊢
    refine ⟨fun hc => ?_, fun hc => ?_⟩
    · replace h := h.1 hc
      exact mf_X12_cheapTwos_b153 hq hK8 f0 h
    · replace h := h.2 hc
      refine ⟨h.1, ?_⟩; replace h := h.2
      refine mf_X12_cheapPart (fun r12 σ13 h gσ13 => ?_) Fr.rf h
      have fσ13 : Fr S_X12_cheapTwos σ0 σ13 := f0.tr gσ13 (mkS_sub (by decide) (by decide))
      refine ⟨fun hc => ?_, fun hc => ?_⟩
      · replace h := h.1 hc
        exact mf_X12_cheapTwos_b147 hq hK8 ih fσ13 h
      · replace h := h.2 hc
        refine ⟨h.1, ?_⟩; replace h := h.2
        refine mf_X12_cheapPart (fun r14 σ15 h gσ15 => ?_) Fr.rf h
        have fσ15 : Fr S_X12_cheapTwos σ0 σ15 := fσ13.tr gσ15 (mkS_sub (by decide) (by decide))
        refine mf_X12_timesGreat (fun r16 σ17 h gσ17 => ?_) Fr.rf h
        have fσ17 : Fr S_X12_cheapTwos σ0 σ17 := fσ15.tr gσ17 (mkS_sub (by decide) (by decide))
        refine mf_X12_plusGreat (fun r18 σ19 h gσ19 => ?_) Fr.rf h
        have fσ19 : Fr S_X12_cheapTwos σ0 σ19 := fσ17.tr gσ19 (mkS_sub (by decide) (by decide))
        exact mf_X12_cheapTwos_b147 hq hK8 ih fσ19 h
set_option maxHeartbeats 1000000 in
theorem mf_X12_cheapTwos_l8 {Q Q' : Int → St → Prop} {σ0 : St} (hq : ∀ (r : Int) (σ1 : St), Q r σ1 → Fr S_X12_cheapTwos σ0 σ1 → Q' r σ1) : ∀ (n : Nat) (x1 : Int) (x2 : Int) (x3 : Int) (x4 : Int) (x5 : Int) (x7 : Int) (σ : St), Fr S_X12_cheapTwos σ0 σ → wp_X12_cheapTwos_l8 Q n x1 x2 x3 x4 x5 x7 σ → wp_X12_cheapTwos_l8 Q' n x1 x2 x3 x4 x5 x7 σ := by
  intro n
  induction n with
  | zero => intro _ _ _ _ _ _ _ _ h; exact h.elim
  | succ n ih =>
    intro x1 x2 x3 x4 x5 x7 σ f0 h
    unfold wp_X12_cheapTwos_l8 at h ⊢
    refine ⟨fun hc => ?_, fun hc => ?_⟩
    · replace h := h.1 hc
      exact hq _ _ h f0
    · replace h := h.2 hc
      refine ⟨h.1, ?_⟩; replace h := h.2
      refine mf_X12_fits (fun r2 σ3 h gσ3 => ?_) Fr.rf h
      have fσ3 : Fr S_X12_cheapTwos σ0 σ3 := f0.tr gσ3 (mkS_sub (by decide) (by decide))
      refine ⟨fun hc => ?_, fun hc => ?_⟩
      · replace h := h.1 hc
        exact mf_X12_cheapTwos_b153 hq ih fσ3 h
      · replace h := h.2 hc
        refine ⟨h.1, ?_⟩; replace h := h.2
        refine mf_X12_fits (fun r4 σ5 h gσ5 => ?_) Fr.rf h
        have fσ5 : Fr S_X12_cheapTwos σ0 σ5 := fσ3.tr gσ5 (mkS_sub (by decide) (by decide))
        refine ⟨fun hc => ?_, fun hc => ?_⟩
        · replace h := h.1 hc
          refine ⟨h.1, ?_⟩; replace h := h.2
          refine mf_X12_leastPart (fun r6 σ7 h gσ7 => ?_) Fr.rf h
          have fσ7 : Fr S_X12_cheapTwos σ0 σ7 := fσ5.tr gσ7 (mkS_sub (by decide) (by decide))
          refine ⟨h.1, ?_⟩; replace h := h.2
          refine mf_X12_leastPart (fun r8 σ9 h gσ9 => ?_) Fr.rf h
          have fσ9 : Fr S_X12_cheapTwos σ0 σ9 := fσ7.tr gσ9 (mkS_sub (by decide) (by decide))
          intro v10 ev10; replace h := h v10 ev10
          exact mf_X12_cheapTwos_l86 hq ih bigN _ _ _ _ _ _ _ _ _ fσ9 h
        · replace h := h.2 hc
          exact mf_X12_cheapTwos_b153 hq ih fσ5 h
set_option maxHeartbeats 1000000 in
theorem mf_X12_cheapTwos {Q Q' : Int → St → Prop} {σ0 : St} (hq : ∀ (r : Int) (σ1 : St), Q r σ1 → Fr S_X12_cheapTwos σ0 σ1 → Q' r σ1) {x1 x2 x3 x4 : Int} {σ : St} (f0 : Fr S_X12_cheapTwos σ0 σ) (h : wp_X12_cheapTwos x1 x2 x3 x4 σ Q) : wp_X12_cheapTwos x1 x2 x3 x4 σ Q' := by
  unfold wp_X12_cheapTwos at h ⊢
  intro v1 ev1; replace h := h v1 ev1
  exact mf_X12_cheapTwos_l8 hq bigN _ _ _ _ _ _ _ f0 h
set_option maxHeartbeats 1000000 in
theorem mf_X12_laysCheap_b178 {Q Q' : Int → St → Prop} {σ0 : St} (hq : ∀ (r : Int) (σ1 : St), Q r σ1 → Fr S_X12_laysCheap σ0 σ1 → Q' r σ1) {K3 K3' : Int → Int → Int → Int → St → Prop} (hK3 : ∀ (x1 : Int) (x2 : Int) (x3 : Int) (x4 : Int) (σ : St), Fr S_X12_laysCheap σ0 σ → K3 x1 x2 x3 x4 σ → K3' x1 x2 x3 x4 σ) {K48 K48' : Int → Int → Int → Int → Int → St → Prop} (hK48 : ∀ (x1 : Int) (x2 : Int) (x3 : Int) (x4 : Int) (x5 : Int) (σ : St), Fr S_X12_laysCheap σ0 σ → K48 x1 x2 x3 x4 x5 σ → K48' x1 x2 x3 x4 x5 σ) {x1 x2 x3 x4 x5 : Int} {σ : St} (f0 : Fr S_X12_laysCheap σ0 σ) (h : wp_X12_laysCheap_b178 Q K3 K48 x1 x2 x3 x4 x5 σ) : wp_X12_laysCheap_b178 Q' K3' K48' x1 x2 x3 x4 x5 σ := by
  unfold wp_X12_laysCheap_b178 at h ⊢
  intro v15 ev15; replace h := h v15 ev15
  exact hK48 _ _ _ _ _ _ f0 h
set_option maxHeartbeats 1000000 in
theorem mf_X12_laysCheap_b157 {Q Q' : Int → St → Prop} {σ0 : St} (hq : ∀ (r : Int) (σ1 : St), Q r σ1 → Fr S_X12_laysCheap σ0 σ1 → Q' r σ1) {K3 K3' : Int → Int → Int → Int → St → Prop} (hK3 : ∀ (x1 : Int) (x2 : Int) (x3 : Int) (x4 : Int) (σ : St), Fr S_X12_laysCheap σ0 σ → K3 x1 x2 x3 x4 σ → K3' x1 x2 x3 x4 σ) {K48 K48' : Int → Int → Int → Int → Int → St → Prop} (hK48 : ∀ (x1 : Int) (x2 : Int) (x3 : Int) (x4 : Int) (x5 : Int) (σ : St), Fr S_X12_laysCheap σ0 σ → K48 x1 x2 x3 x4 x5 σ → K48' x1 x2 x3 x4 x5 σ) {x1 x2 x3 x4 x5 x6 s0 : Int} {σ : St} (f0 : Fr S_X12_laysCheap σ0 σ) (h : wp_X12_laysCheap_b157 Q K3 K48 x1 x2 x3 x4 x5 x6 s0 σ) : wp_X12_laysCheap_b157 Q' K3' K48' x1 x2 x3 x4 x5 x6 s0 σ := by
  unfold wp_X12_laysCheap_b157 at h ⊢
  refine ⟨h.1, ?_⟩; replace h := h.2
  refine mf_X12_plusGreat (fun r16 σ17 h gσ17 => ?_) Fr.rf h
  have fσ17 : Fr S_X12_laysCheap σ0 σ17 := f0.tr gσ17 (mkS_sub (by decide) (by decide))
  refine ⟨h.1, fun σ18 eσ18 => ?_⟩; replace h := h.2 σ18 eσ18; have fσ18 : Fr S_X12_laysCheap σ0 σ18 := by rw [eσ18]; exact fσ17.up rfl
  exact mf_X12_laysCheap_b178 hq hK3 hK48 fσ18 h
set_option maxHeartbeats 1000000 in
theorem mf_X12_laysCheap_l48 {Q Q' : Int → St → Prop} {σ0 : St} (hq : ∀ (r : Int) (σ1 : St), Q r σ1 → Fr S_X12_laysCheap σ0 σ1 → Q' r σ1) {K3 K3' : Int → Int → Int → Int → St → Prop} (hK3 : ∀ (x1 : Int) (x2 : Int) (x3 : Int) (x4 : Int) (σ : St), Fr S_X12_laysCheap σ0 σ → K3 x1 x2 x3 x4 σ → K3' x1 x2 x3 x4 σ) : ∀ (n : Nat) (x1 : Int) (x2 : Int) (x3 : Int) (x4 : Int) (x5 : Int) (σ : St), Fr S_X12_laysCheap σ0 σ → wp_X12_laysCheap_l48 Q K3 n x1 x2 x3 x4 x5 σ → wp_X12_laysCheap_l48 Q' K3' n x1 x2 x3 x4 x5 σ := by
  intro n
  induction n with
  | zero => intro _ _ _ _ _ _ _ h; exact h.elim
  | succ n ih =>
    intro x1 x2 x3 x4 x5 σ f0 h
    unfold wp_X12_laysCheap_l48 at h ⊢
    refine ⟨fun hc => ?_, fun hc => ?_⟩
    · replace h := h.1 hc
      intro v5 ev5; replace h := h v5 ev5
      exact hK3 _ _ _ _ _ f0 h
    · replace h := h.2 hc
      refine mf_X12_isIn (fun r6 σ7 h gσ7 => ?_) Fr.rf h
      have fσ7 : Fr S_X12_laysCheap σ0 σ7 := f0.tr gσ7 (mkS_sub (by decide) (by decide))
      refine ⟨fun hc => ?_, fun hc => ?_⟩
      · replace h := h.1 hc
        exact mf_X12_laysCheap_b178 hq hK3 ih fσ7 h
      · replace h := h.2 hc
        refine ⟨h.1, ?_⟩; replace h := h.2
        refine ⟨fun hc => ?_, fun hc => ?_⟩
        · replace h := h.1 hc
          refine ⟨h.1, ?_⟩; replace h := h.2
          refine mf_X12_item (fun r8 σ9 h gσ9 => ?_) Fr.rf h
          have fσ9 : Fr S_X12_laysCheap σ0 σ9 := fσ7.tr gσ9 (mkS_sub (by decide) (by decide))
          intro v10 ev10; replace h := h v10 ev10
          refine ⟨h.1, ?_⟩; replace h := h.2
          refine ⟨fun hc => ?_, fun hc => ?_⟩
          · replace h := h.1 hc
            refine ⟨h.1, ?_⟩; replace h := h.2
            refine mf_X12_cheapTwos (fun r11 σ12 h gσ12 => ?_) Fr.rf h
            have fσ12 : Fr S_X12_laysCheap σ0 σ12 := fσ9.tr gσ12 (mkS_sub (by decide) (by decide))
            exact mf_X12_laysCheap_b157 hq hK3 ih fσ12 h
          · replace h := h.2 hc
            refine ⟨h.1, ?_⟩; replace h := h.2
            refine ⟨h.1, ?_⟩; replace h := h.2
            refine mf_X12_cheapPart (fun r13 σ14 h gσ14 => ?_) Fr.rf h
            have fσ14 : Fr S_X12_laysCheap σ0 σ14 := fσ9.tr gσ14 (mkS_sub (by decide) (by decide))
            exact mf_X12_laysCheap_b157 hq hK3 ih fσ14 h
        · replace h := h.2 hc
          exact mf_X12_laysCheap_b178 hq hK3 ih fσ7 h
set_option maxHeartbeats 1000000 in
theorem mf_X12_laysCheap_l12 {Q Q' : Int → St → Prop} {σ0 : St} (hq : ∀ (r : Int) (σ1 : St), Q r σ1 → Fr S_X12_laysCheap σ0 σ1 → Q' r σ1) {K3 K3' : Int → Int → Int → Int → St → Prop} (hK3 : ∀ (x1 : Int) (x2 : Int) (x3 : Int) (x4 : Int) (σ : St), Fr S_X12_laysCheap σ0 σ → K3 x1 x2 x3 x4 σ → K3' x1 x2 x3 x4 σ) : ∀ (n : Nat) (x1 : Int) (x2 : Int) (x3 : Int) (x4 : Int) (x5 : Int) (σ : St), Fr S_X12_laysCheap σ0 σ → wp_X12_laysCheap_l12 Q K3 n x1 x2 x3 x4 x5 σ → wp_X12_laysCheap_l12 Q' K3' n x1 x2 x3 x4 x5 σ := by
  intro n
  induction n with
  | zero => intro _ _ _ _ _ _ _ h; exact h.elim
  | succ n ih =>
    intro x1 x2 x3 x4 x5 σ f0 h
    unfold wp_X12_laysCheap_l12 at h ⊢
    refine ⟨fun hc => ?_, fun hc => ?_⟩
    · replace h := h.1 hc
      exact mf_X12_laysCheap_l48 hq hK3 bigN _ _ _ _ _ _ f0 h
    · replace h := h.2 hc
      refine mf_X12_item (fun r1 σ2 h gσ2 => ?_) Fr.rf h
      have fσ2 : Fr S_X12_laysCheap σ0 σ2 := f0.tr gσ2 (mkS_sub (by decide) (by decide))
      refine ⟨h.1, fun σ3 eσ3 => ?_⟩; replace h := h.2 σ3 eσ3; have fσ3 : Fr S_X12_laysCheap σ0 σ3 := by rw [eσ3]; exact fσ2.up rfl
      intro v4 ev4; replace h := h v4 ev4
      exact ih _ _ _ _ _ _ fσ3 h
set_option maxHeartbeats 1000000 in
theorem mf_X12_laysCheap_l3 {Q Q' : Int → St → Prop} {σ0 : St} (hq : ∀ (r : Int) (σ1 : St), Q r σ1 → Fr S_X12_laysCheap σ0 σ1 → Q' r σ1) : ∀ (n : Nat) (x1 : Int) (x2 : Int) (x3 : Int) (x4 : Int) (σ : St), Fr S_X12_laysCheap σ0 σ → wp_X12_laysCheap_l3 Q n x1 x2 x3 x4 σ → wp_X12_laysCheap_l3 Q' n x1 x2 x3 x4 σ := by
  intro n
  induction n with
  | zero => intro _ _ _ _ _ _ h; exact h.elim
  | succ n ih =>
    intro x1 x2 x3 x4 σ f0 h
    unfold wp_X12_laysCheap_l3 at h ⊢
    refine ⟨fun hc => ?_, fun hc => ?_⟩
    · replace h := h.1 hc
      exact hq _ _ h f0
    · replace h := h.2 hc
      exact mf_X12_laysCheap_l12 hq ih bigN _ _ _ _ _ _ f0 h
set_option maxHeartbeats 1000000 in
theorem mf_X12_laysCheap {Q Q' : Int → St → Prop} {σ0 : St} (hq : ∀ (r : Int) (σ1 : St), Q r σ1 → Fr S_X12_laysCheap σ0 σ1 → Q' r σ1) {x1 x2 x3 : Int} {σ : St} (f0 : Fr S_X12_laysCheap σ0 σ) (h : wp_X12_laysCheap x1 x2 x3 σ Q) : wp_X12_laysCheap x1 x2 x3 σ Q' := by
  unfold wp_X12_laysCheap at h ⊢
  exact mf_X12_laysCheap_l3 hq bigN _ _ _ _ _ f0 h
set_option maxHeartbeats 1000000 in
theorem mf_X12_cheap_l46 {Q Q' : Int → St → Prop} {σ0 : St} (hq : ∀ (r : Int) (σ1 : St), Q r σ1 → Fr S_X12_cheap σ0 σ1 → Q' r σ1) {K34 K34' : Int → Int → Int → Int → Int → St → Prop} (hK34 : ∀ (x1 : Int) (x2 : Int) (x3 : Int) (x4 : Int) (x5 : Int) (σ : St), Fr S_X12_cheap σ0 σ → K34 x1 x2 x3 x4 x5 σ → K34' x1 x2 x3 x4 x5 σ) : ∀ (n : Nat) (x1 : Int) (x2 : Int) (x3 : Int) (x4 : Int) (x5 : Int) (x6 : Int) (σ : St), Fr S_X12_cheap σ0 σ → wp_X12_cheap_l46 Q K34 n x1 x2 x3 x4 x5 x6 σ → wp_X12_cheap_l46 Q' K34' n x1 x2 x3 x4 x5 x6 σ := by
  intro n
  induction n with
  | zero => intro _ _ _ _ _ _ _ _ h; exact h.elim
  | succ n ih =>
    intro x1 x2 x3 x4 x5 x6 σ f0 h
    unfold wp_X12_cheap_l46 at h ⊢
    refine ⟨fun hc => ?_, fun hc => ?_⟩
    · replace h := h.1 hc
      intro v12 ev12; replace h := h v12 ev12
      exact hK34 _ _ _ _ _ _ f0 h
    · replace h := h.2 hc
      refine mf_X12_laysCheap (fun r13 σ14 h gσ14 => ?_) Fr.rf h
      have fσ14 : Fr S_X12_cheap σ0 σ14 := f0.tr gσ14 (mkS_sub (by decide) (by decide))
      intro v15 ev15; replace h := h v15 ev15
      exact ih _ _ _ _ _ _ _ fσ14 h
set_option maxHeartbeats 1000000 in
theorem mf_X12_cheap_l89 {Q Q' : Int → St → Prop} {σ0 : St} (hq : ∀ (r : Int) (σ1 : St), Q r σ1 → Fr S_X12_cheap σ0 σ1 → Q' r σ1) : ∀ (n : Nat) (x1 : Int) (x2 : Int) (x3 : Int) (x4 : Int) (x5 : Int) (x7 : Int) (σ : St), Fr S_X12_cheap σ0 σ → wp_X12_cheap_l89 Q n x1 x2 x3 x4 x5 x7 σ → wp_X12_cheap_l89 Q' n x1 x2 x3 x4 x5 x7 σ := by
  intro n
  induction n with
  | zero => intro _ _ _ _ _ _ _ _ h; exact h.elim
  | succ n ih =>
    intro x1 x2 x3 x4 x5 x7 σ f0 h
    unfold wp_X12_cheap_l89 at h ⊢
    refine ⟨fun hc => ?_, fun hc => ?_⟩
    · replace h := h.1 hc
      refine ⟨fun hc => ?_, fun hc => ?_⟩
      · replace h := h.1 hc
        exact hq _ _ h f0
      · replace h := h.2 hc
        exact hq _ _ h f0
    · replace h := h.2 hc
      refine mf_X12_cheapPart (fun r7 σ8 h gσ8 => ?_) Fr.rf h
      have fσ8 : Fr S_X12_cheap σ0 σ8 := f0.tr gσ8 (mkS_sub (by decide) (by decide))
      refine mf_X12_plusGreat (fun r9 σ10 h gσ10 => ?_) Fr.rf h
      have fσ10 : Fr S_X12_cheap σ0 σ10 := fσ8.tr gσ10 (mkS_sub (by decide) (by decide))
      intro v11 ev11; replace h := h v11 ev11
      exact ih _ _ _ _ _ _ _ fσ10 h
set_option maxHeartbeats 1000000 in
theorem mf_X12_cheap_l34 {Q Q' : Int → St → Prop} {σ0 : St} (hq : ∀ (r : Int) (σ1 : St), Q r σ1 → Fr S_X12_cheap σ0 σ1 → Q' r σ1) : ∀ (n : Nat) (x1 : Int) (x2 : Int) (x3 : Int) (x4 : Int) (x5 : Int) (σ : St), Fr S_X12_cheap σ0 σ → wp_X12_cheap_l34 Q n x1 x2 x3 x4 x5 σ → wp_X12_cheap_l34 Q' n x1 x2 x3 x4 x5 σ := by
  intro n
  induction n with
  | zero => intro _ _ _ _ _ _ _ h; exact h.elim
  | succ n ih =>
    intro x1 x2 x3 x4 x5 σ f0 h
    unfold wp_X12_cheap_l34 at h ⊢
    refine ⟨fun hc => ?_, fun hc => ?_⟩
    · replace h := h.1 hc
      exact mf_X12_cheap_l89 hq bigN _ _ _ _ _ _ _ f0 h
    · replace h := h.2 hc
      exact mf_X12_cheap_l46 hq ih bigN _ _ _ _ _ _ _ f0 h
set_option maxHeartbeats 1000000 in
theorem mf_X12_cheap {Q Q' : Int → St → Prop} {σ0 : St} (hq : ∀ (r : Int) (σ1 : St), Q r σ1 → Fr S_X12_cheap σ0 σ1 → Q' r σ1) {x1 x2 x3 x4 : Int} {σ : St} (f0 : Fr S_X12_cheap σ0 σ) (h : wp_X12_cheap x1 x2 x3 x4 σ Q) : wp_X12_cheap x1 x2 x3 x4 σ Q' := by
  unfold wp_X12_cheap at h ⊢
  refine mf_X12_isItem (fun r1 σ2 h gσ2 => ?_) Fr.rf h
  have fσ2 : Fr S_X12_cheap σ0 σ2 := f0.tr gσ2 (mkS_sub (by decide) (by decide))
  refine ⟨fun hc => ?_, fun hc => ?_⟩
  · replace h := h.1 hc
    exact hq _ _ h fσ2
  · replace h := h.2 hc
    refine mf_X12_in (fun r3 σ4 h gσ4 => ?_) Fr.rf h
    have fσ4 : Fr S_X12_cheap σ0 σ4 := fσ2.tr gσ4 (mkS_sub (by decide) (by decide))
    refine ⟨fun hc => ?_, fun hc => ?_⟩
    · replace h := h.1 hc
      refine mf_X12_looks (fun r5 σ6 h gσ6 => ?_) Fr.rf h
      have fσ6 : Fr S_X12_cheap σ0 σ6 := fσ4.tr gσ6 (mkS_sub (by decide) (by decide))
      exact mf_X12_cheap_l34 hq bigN _ _ _ _ _ _ fσ6 h
    · replace h := h.2 hc
      exact hq _ _ h fσ4
set_option maxHeartbeats 1000000 in
theorem mf_X12_leastOfAll_b30 {Q Q' : Int → St → Prop} {σ0 : St} (hq : ∀ (r : Int) (σ1 : St), Q r σ1 → Fr S_X12_leastOfAll σ0 σ1 → Q' r σ1) {σ : St} (f0 : Fr S_X12_leastOfAll σ0 σ) (h : wp_X12_leastOfAll_b30 Q  σ) : wp_X12_leastOfAll_b30 Q'  σ := by
  unfold wp_X12_leastOfAll_b30 at h ⊢
  exact hq _ _ h f0
set_option maxHeartbeats 1000000 in
theorem mf_X12_leastOfAll {Q Q' : Int → St → Prop} {σ0 : St} (hq : ∀ (r : Int) (σ1 : St), Q r σ1 → Fr S_X12_leastOfAll σ0 σ1 → Q' r σ1) {σ : St} (f0 : Fr S_X12_leastOfAll σ0 σ) (h : wp_X12_leastOfAll  σ Q) : wp_X12_leastOfAll  σ Q' := by
  unfold wp_X12_leastOfAll at h ⊢
  refine ⟨fun hc => ?_, fun hc => ?_⟩
  · replace h := h.1 hc
    exact mf_X12_leastOfAll_b30 hq f0 h
  · replace h := h.2 hc
    refine ⟨fun hc => ?_, fun hc => ?_⟩
    · replace h := h.1 hc
      exact mf_X12_leastOfAll_b30 hq f0 h
    · replace h := h.2 hc
      refine mf_X12_start (fun r1 σ2 h gσ2 => ?_) Fr.rf h
      have fσ2 : Fr S_X12_leastOfAll σ0 σ2 := f0.tr gσ2 (mkS_sub (by decide) (by decide))
      refine mf_X12_has (fun r3 σ4 h gσ4 => ?_) Fr.rf h
      have fσ4 : Fr S_X12_leastOfAll σ0 σ4 := fσ2.tr gσ4 (mkS_sub (by decide) (by decide))
      refine ⟨fun hc => ?_, fun hc => ?_⟩
      · replace h := h.1 hc
        refine mf_X12_start (fun r5 σ6 h gσ6 => ?_) Fr.rf h
        have fσ6 : Fr S_X12_leastOfAll σ0 σ6 := fσ4.tr gσ6 (mkS_sub (by decide) (by decide))
        refine mf_X12_item (fun r7 σ8 h gσ8 => ?_) Fr.rf h
        have fσ8 : Fr S_X12_leastOfAll σ0 σ8 := fσ6.tr gσ8 (mkS_sub (by decide) (by decide))
        refine ⟨h.1, ?_⟩; replace h := h.2
        exact hq _ _ h fσ8
      · replace h := h.2 hc
        exact mf_X12_leastOfAll_b30 hq fσ4 h
set_option maxHeartbeats 1000000 in
theorem mf_X12_without {Q Q' : Int → St → Prop} {σ0 : St} (hq : ∀ (r : Int) (σ1 : St), Q r σ1 → Fr S_X12_without σ0 σ1 → Q' r σ1) {x1 : Int} {σ : St} (f0 : Fr S_X12_without σ0 σ) (h : wp_X12_without x1 σ Q) : wp_X12_without x1 σ Q' := by
  unfold wp_X12_without at h ⊢
  refine mf_X12_isRule (fun r1 σ2 h gσ2 => ?_) Fr.rf h
  have fσ2 : Fr S_X12_without σ0 σ2 := f0.tr gσ2 (mkS_sub (by decide) (by decide))
  refine ⟨fun hc => ?_, fun hc => ?_⟩
  · replace h := h.1 hc
    refine mf_X12_looks (fun r3 σ4 h gσ4 => ?_) Fr.rf h
    have fσ4 : Fr S_X12_without σ0 σ4 := fσ2.tr gσ4 (mkS_sub (by decide) (by decide))
    refine mf_X12_laysLeast (fun r5 σ6 h gσ6 => ?_) Fr.rf h
    have fσ6 : Fr S_X12_without σ0 σ6 := fσ4.tr gσ6 (mkS_sub (by decide) (by decide))
    refine mf_X12_leastOfAll (fun r7 σ8 h gσ8 => ?_) Fr.rf h
    have fσ8 : Fr S_X12_without σ0 σ8 := fσ6.tr gσ8 (mkS_sub (by decide) (by decide))
    exact hq _ _ h fσ8
  · replace h := h.2 hc
    exact hq _ _ h fσ2
set_option maxHeartbeats 1000000 in
theorem mf_X12_heads_b44 {Q Q' : Int → St → Prop} {σ0 : St} (hq : ∀ (r : Int) (σ1 : St), Q r σ1 → Fr S_X12_heads σ0 σ1 → Q' r σ1) {K8 K8' : Int → Int → St → Prop} (hK8 : ∀ (x1 : Int) (x2 : Int) (σ : St), Fr S_X12_heads σ0 σ → K8 x1 x2 σ → K8' x1 x2 σ) {x2 s0 s1 : Int} {σ : St} (f0 : Fr S_X12_heads σ0 σ) (h : wp_X12_heads_b44 Q K8 x2 s0 s1 σ) : wp_X12_heads_b44 Q' K8' x2 s0 s1 σ := by
  unfold wp_X12_heads_b44 at h ⊢
  intro v7 ev7; replace h := h v7 ev7
  intro v8 ev8; replace h := h v8 ev8
  exact hK8 _ _ _ f0 h
set_option maxHeartbeats 1000000 in
theorem mf_X12_heads_l8 {Q Q' : Int → St → Prop} {σ0 : St} (hq : ∀ (r : Int) (σ1 : St), Q r σ1 → Fr S_X12_heads σ0 σ1 → Q' r σ1) : ∀ (n : Nat) (x1 : Int) (x2 : Int) (σ : St), Fr S_X12_heads σ0 σ → wp_X12_heads_l8 Q n x1 x2 σ → wp_X12_heads_l8 Q' n x1 x2 σ := by
  intro n
  induction n with
  | zero => intro _ _ _ _ h; exact h.elim
  | succ n ih =>
    intro x1 x2 σ f0 h
    unfold wp_X12_heads_l8 at h ⊢
    refine ⟨fun hc => ?_, fun hc => ?_⟩
    · replace h := h.1 hc
      exact hq _ _ h f0
    · replace h := h.2 hc
      refine ⟨fun hc => ?_, fun hc => ?_⟩
      · replace h := h.1 hc
        exact hq _ _ h f0
      · replace h := h.2 hc
        refine mf_X12_start (fun r3 σ4 h gσ4 => ?_) Fr.rf h
        have fσ4 : Fr S_X12_heads σ0 σ4 := f0.tr gσ4 (mkS_sub (by decide) (by decide))
        refine mf_X12_has (fun r5 σ6 h gσ6 => ?_) Fr.rf h
        have fσ6 : Fr S_X12_heads σ0 σ6 := fσ4.tr gσ6 (mkS_sub (by decide) (by decide))
        refine ⟨fun hc => ?_, fun hc => ?_⟩
        · replace h := h.1 hc
          exact mf_X12_heads_b44 hq ih fσ6 h
        · replace h := h.2 hc
          exact mf_X12_heads_b44 hq ih fσ6 h
set_option maxHeartbeats 1000000 in
theorem mf_X12_heads {Q Q' : Int → St → Prop} {σ0 : St} (hq : ∀ (r : Int) (σ1 : St), Q r σ1 → Fr S_X12_heads σ0 σ1 → Q' r σ1) {σ : St} (f0 : Fr S_X12_heads σ0 σ) (h : wp_X12_heads  σ Q) : wp_X12_heads  σ Q' := by
  unfold wp_X12_heads at h ⊢
  refine mf_X12_looks (fun r1 σ2 h gσ2 => ?_) Fr.rf h
  have fσ2 : Fr S_X12_heads σ0 σ2 := f0.tr gσ2 (mkS_sub (by decide) (by decide))
  exact mf_X12_heads_l8 hq bigN _ _ _ fσ2 h
set_option maxHeartbeats 1000000 in
theorem mf_X12_laysMends_b105 {Q Q' : Int → St → Prop} {σ0 : St} (hq : ∀ (r : Int) (σ1 : St), Q r σ1 → Fr S_X12_laysMends σ0 σ1 → Q' r σ1) {K11 K11' : Int → Int → St → Prop} (hK11 : ∀ (x1 : Int) (x2 : Int) (σ : St), Fr S_X12_laysMends σ0 σ → K11 x1 x2 σ → K11' x1 x2 σ) {K21 K21' : Int → Int → Int → St → Prop} (hK21 : ∀ (x1 : Int) (x2 : Int) (x3 : Int) (σ : St), Fr S_X12_laysMends σ0 σ → K21 x1 x2 x3 σ → K21' x1 x2 x3 σ) {x1 x2 x3 : Int} {σ : St} (f0 : Fr S_X12_laysMends σ0 σ) (h : wp_X12_laysMends_b105 Q K11 K21 x1 x2 x3 σ) : wp_X12_laysMends_b105 Q' K11' K21' x1 x2 x3 σ := by
  unfold wp_X12_laysMends_b105 at h ⊢
  intro v14 ev14; replace h := h v14 ev14
  exact hK21 _ _ _ _ f0 h
set_option maxHeartbeats 1000000 in
theorem mf_X12_laysMends_l21 {Q Q' : Int → St → Prop} {σ0 : St} (hq : ∀ (r : Int) (σ1 : St), Q r σ1 → Fr S_X12_laysMends σ0 σ1 → Q' r σ1) {K11 K11' : Int → Int → St → Prop} (hK11 : ∀ (x1 : Int) (x2 : Int) (σ : St), Fr S_X12_laysMends σ0 σ → K11 x1 x2 σ → K11' x1 x2 σ) : ∀ (n : Nat) (x1 : Int) (x2 : Int) (x3 : Int) (σ : St), Fr S_X12_laysMends σ0 σ → wp_X12_laysMends_l21 Q K11 n x1 x2 x3 σ → wp_X12_laysMends_l21 Q' K11' n x1 x2 x3 σ := by
  intro n
  induction n with
  | zero => intro _ _ _ _ _ h; exact h.elim
  | succ n ih =>
    intro x1 x2 x3 σ f0 h
    unfold wp_X12_laysMends_l21 at h ⊢
    refine ⟨fun hc => ?_, fun hc => ?_⟩
    · replace h := h.1 hc
      intro v2 ev2; replace h := h v2 ev2
      exact hK11 _ _ _ f0 h
    · replace h := h.2 hc
      refine mf_X12_looks (fun r3 σ4 h gσ4 => ?_) Fr.rf h
      have fσ4 : Fr S_X12_laysMends σ0 σ4 := f0.tr gσ4 (mkS_sub (by decide) (by decide))
      refine ⟨h.1, ?_⟩; replace h := h.2
      refine ⟨fun hc => ?_, fun hc => ?_⟩
      · replace h := h.1 hc
        refine ⟨h.1, fun σ5 eσ5 => ?_⟩; replace h := h.2 σ5 eσ5; have fσ5 : Fr S_X12_laysMends σ0 σ5 := by rw [eσ5]; exact fσ4.up rfl
        refine mf_X12_laysLeast (fun r6 σ7 h gσ7 => ?_) Fr.rf h
        have fσ7 : Fr S_X12_laysMends σ0 σ7 := fσ5.tr gσ7 (mkS_sub (by decide) (by decide))
        refine mf_X12_leastOfAll (fun r8 σ9 h gσ9 => ?_) Fr.rf h
        have fσ9 : Fr S_X12_laysMends σ0 σ9 := fσ7.tr gσ9 (mkS_sub (by decide) (by decide))
        refine ⟨fun hc => ?_, fun hc => ?_⟩
        · replace h := h.1 hc
          intro v10 ev10; replace h := h v10 ev10
          refine ⟨fun hc => ?_, fun hc => ?_⟩
          · replace h := h.1 hc
            intro σ11 eσ11; replace h := h σ11 eσ11; have fσ11 : Fr S_X12_laysMends σ0 σ11 := by rw [eσ11]; exact fσ9.up rfl
            intro σ12 eσ12; replace h := h σ12 eσ12; have fσ12 : Fr S_X12_laysMends σ0 σ12 := by rw [eσ12]; exact fσ11.up rfl
            intro σ13 eσ13; replace h := h σ13 eσ13; have fσ13 : Fr S_X12_laysMends σ0 σ13 := by rw [eσ13]; exact fσ12.up rfl
            exact mf_X12_laysMends_b105 hq hK11 ih fσ13 h
          · replace h := h.2 hc
            exact mf_X12_laysMends_b105 hq hK11 ih fσ9 h
        · replace h := h.2 hc
          exact mf_X12_laysMends_b105 hq hK11 ih fσ9 h
      · replace h := h.2 hc
        exact mf_X12_laysMends_b105 hq hK11 ih fσ4 h
set_option maxHeartbeats 1000000 in
theorem mf_X12_laysMends_l11 {Q Q' : Int → St → Prop} {σ0 : St} (hq : ∀ (r : Int) (σ1 : St), Q r σ1 → Fr S_X12_laysMends σ0 σ1 → Q' r σ1) : ∀ (n : Nat) (x1 : Int) (x2 : Int) (σ : St), Fr S_X12_laysMends σ0 σ → wp_X12_laysMends_l11 Q n x1 x2 σ → wp_X12_laysMends_l11 Q' n x1 x2 σ := by
  intro n
  induction n with
  | zero => intro _ _ _ _ h; exact h.elim
  | succ n ih =>
    intro x1 x2 σ f0 h
    unfold wp_X12_laysMends_l11 at h ⊢
    refine ⟨fun hc => ?_, fun hc => ?_⟩
    · replace h := h.1 hc
      exact hq _ _ h f0
    · replace h := h.2 hc
      exact mf_X12_laysMends_l21 hq ih bigN _ _ _ _ f0 h
set_option maxHeartbeats 1000000 in
theorem mf_X12_laysMends {Q Q' : Int → St → Prop} {σ0 : St} (hq : ∀ (r : Int) (σ1 : St), Q r σ1 → Fr S_X12_laysMends σ0 σ1 → Q' r σ1) {σ : St} (f0 : Fr S_X12_laysMends σ0 σ) (h : wp_X12_laysMends  σ Q) : wp_X12_laysMends  σ Q' := by
  unfold wp_X12_laysMends at h ⊢
  intro σ1 eσ1; replace h := h σ1 eσ1; have fσ1 : Fr S_X12_laysMends σ0 σ1 := by rw [eσ1]; exact f0.up rfl
  exact mf_X12_laysMends_l11 hq bigN _ _ _ fσ1 h
set_option maxHeartbeats 1000000 in
theorem mf_X12_mends {Q Q' : Int → St → Prop} {σ0 : St} (hq : ∀ (r : Int) (σ1 : St), Q r σ1 → Fr S_X12_mends σ0 σ1 → Q' r σ1) {σ : St} (f0 : Fr S_X12_mends σ0 σ) (h : wp_X12_mends  σ Q) : wp_X12_mends  σ Q' := by
  unfold wp_X12_mends at h ⊢
  refine mf_X12_laysMends (fun r1 σ2 h gσ2 => ?_) Fr.rf h
  have fσ2 : Fr S_X12_mends σ0 σ2 := f0.tr gσ2 (mkS_sub (by decide) (by decide))
  exact hq _ _ h fσ2
set_option maxHeartbeats 1000000 in
theorem mf_X12_mend {Q Q' : Int → St → Prop} {σ0 : St} (hq : ∀ (r : Int) (σ1 : St), Q r σ1 → Fr S_X12_mend σ0 σ1 → Q' r σ1) {x1 : Int} {σ : St} (f0 : Fr S_X12_mend σ0 σ) (h : wp_X12_mend x1 σ Q) : wp_X12_mend x1 σ Q' := by
  unfold wp_X12_mend at h ⊢
  refine mf_X12_in (fun r1 σ2 h gσ2 => ?_) Fr.rf h
  have fσ2 : Fr S_X12_mend σ0 σ2 := f0.tr gσ2 (mkS_sub (by decide) (by decide))
  refine ⟨fun hc => ?_, fun hc => ?_⟩
  · replace h := h.1 hc
    refine mf_X12_laysMends (fun r3 σ4 h gσ4 => ?_) Fr.rf h
    have fσ4 : Fr S_X12_mend σ0 σ4 := fσ2.tr gσ4 (mkS_sub (by decide) (by decide))
    refine ⟨fun hc => ?_, fun hc => ?_⟩
    · replace h := h.1 hc
      refine ⟨fun hc => ?_, fun hc => ?_⟩
      · replace h := h.1 hc
        refine ⟨fun hc => ?_, fun hc => ?_⟩
        · replace h := h.1 hc
          exact hq _ _ h fσ4
        · replace h := h.2 hc
          exact hq _ _ h fσ4
      · replace h := h.2 hc
        exact hq _ _ h fσ4
    · replace h := h.2 hc
      exact hq _ _ h fσ4
  · replace h := h.2 hc
    exact hq _ _ h fσ2
set_option maxHeartbeats 1000000 in
theorem mf_X12_rings {Q Q' : Int → St → Prop} {σ0 : St} (hq : ∀ (r : Int) (σ1 : St), Q r σ1 → Fr S_X12_rings σ0 σ1 → Q' r σ1) {σ : St} (f0 : Fr S_X12_rings σ0 σ) (h : wp_X12_rings  σ Q) : wp_X12_rings  σ Q' := by
  unfold wp_X12_rings at h ⊢
  intro σ1 eσ1; replace h := h σ1 eσ1; have fσ1 : Fr S_X12_rings σ0 σ1 := by rw [eσ1]; exact f0.up rfl
  refine mf_X12_ringsAt (fun r2 σ3 h gσ3 => ?_) Fr.rf h
  have fσ3 : Fr S_X12_rings σ0 σ3 := fσ1.tr gσ3 (mkS_sub (by decide) (by decide))
  exact hq _ _ h fσ3
set_option maxHeartbeats 1000000 in
theorem mf_X12_isOf_b20 {Q Q' : Int → St → Prop} {σ0 : St} (hq : ∀ (r : Int) (σ1 : St), Q r σ1 → Fr S_X12_isOf σ0 σ1 → Q' r σ1) {σ : St} (f0 : Fr S_X12_isOf σ0 σ) (h : wp_X12_isOf_b20 Q  σ) : wp_X12_isOf_b20 Q'  σ := by
  unfold wp_X12_isOf_b20 at h ⊢
  exact hq _ _ h f0
set_option maxHeartbeats 1000000 in
theorem mf_X12_isOf {Q Q' : Int → St → Prop} {σ0 : St} (hq : ∀ (r : Int) (σ1 : St), Q r σ1 → Fr S_X12_isOf σ0 σ1 → Q' r σ1) {x0 x1 : Int} {σ : St} (f0 : Fr S_X12_isOf σ0 σ) (h : wp_X12_isOf x0 x1 σ Q) : wp_X12_isOf x0 x1 σ Q' := by
  unfold wp_X12_isOf at h ⊢
  refine ⟨fun hc => ?_, fun hc => ?_⟩
  · replace h := h.1 hc
    exact mf_X12_isOf_b20 hq f0 h
  · replace h := h.2 hc
    refine ⟨fun hc => ?_, fun hc => ?_⟩
    · replace h := h.1 hc
      exact mf_X12_isOf_b20 hq f0 h
    · replace h := h.2 hc
      refine ⟨fun hc => ?_, fun hc => ?_⟩
      · replace h := h.1 hc
        exact hq _ _ h f0
      · replace h := h.2 hc
        exact mf_X12_isOf_b20 hq f0 h
set_option maxHeartbeats 1000000 in
theorem mf_X12_alive_b82 {Q Q' : Int → St → Prop} {σ0 : St} (hq : ∀ (r : Int) (σ1 : St), Q r σ1 → Fr S_X12_alive σ0 σ1 → Q' r σ1) {K21 K21' : Int → Int → St → Prop} (hK21 : ∀ (x1 : Int) (x2 : Int) (σ : St), Fr S_X12_alive σ0 σ → K21 x1 x2 σ → K21' x1 x2 σ) {K29 K29' : Int → Int → Int → St → Prop} (hK29 : ∀ (x1 : Int) (x2 : Int) (x3 : Int) (σ : St), Fr S_X12_alive σ0 σ → K29 x1 x2 x3 σ → K29' x1 x2 x3 σ) {x1 x2 x3 : Int} {σ : St} (f0 : Fr S_X12_alive σ0 σ) (h : wp_X12_alive_b82 Q K21 K29 x1 x2 x3 σ) : wp_X12_alive_b82 Q' K21' K29' x1 x2 x3 σ := by
  unfold wp_X12_alive_b82 at h ⊢
  intro v23 ev23; replace h := h v23 ev23
  exact hK29 _ _ _ _ f0 h
set_option maxHeartbeats 1000000 in
theorem mf_X12_alive_l29 {Q Q' : Int → St → Prop} {σ0 : St} (hq : ∀ (r : Int) (σ1 : St), Q r σ1 → Fr S_X12_alive σ0 σ1 → Q' r σ1) {K21 K21' : Int → Int → St → Prop} (hK21 : ∀ (x1 : Int) (x2 : Int) (σ : St), Fr S_X12_alive σ0 σ → K21 x1 x2 σ → K21' x1 x2 σ) : ∀ (n : Nat) (x1 : Int) (x2 : Int) (x3 : Int) (σ : St), Fr S_X12_alive σ0 σ → wp_X12_alive_l29 Q K21 n x1 x2 x3 σ → wp_X12_alive_l29 Q' K21' n x1 x2 x3 σ := by
  intro n
  induction n with
  | zero => intro _ _ _ _ _ h; exact h.elim
  | succ n ih =>
    intro x1 x2 x3 σ f0 h
    unfold wp_X12_alive_l29 at h ⊢
    refine ⟨fun hc => ?_, fun hc => ?_⟩
    · replace h := h.1 hc
      intro v5 ev5; replace h := h v5 ev5
      exact hK21 _ _ _ f0 h
    · replace h := h.2 hc
      refine mf_X12_isIn (fun r6 σ7 h gσ7 => ?_) Fr.rf h
      have fσ7 : Fr S_X12_alive σ0 σ7 := f0.tr gσ7 (mkS_sub (by decide) (by decide))
      refine ⟨fun hc => ?_, fun hc => ?_⟩
      · replace h := h.1 hc
        exact mf_X12_alive_b82 hq hK21 ih fσ7 h
      · replace h := h.2 hc
        refine ⟨h.1, ?_⟩; replace h := h.2
        refine mf_X12_isOf (fun r8 σ9 h gσ9 => ?_) Fr.rf h
        have fσ9 : Fr S_X12_alive σ0 σ9 := fσ7.tr gσ9 (mkS_sub (by decide) (by decide))
        refine ⟨fun hc => ?_, fun hc => ?_⟩
        · replace h := h.1 hc
          exact mf_X12_alive_b82 hq hK21 ih fσ9 h
        · replace h := h.2 hc
          refine ⟨h.1, ?_⟩; replace h := h.2
          refine mf_X12_isOf (fun r10 σ11 h gσ11 => ?_) Fr.rf h
          have fσ11 : Fr S_X12_alive σ0 σ11 := fσ9.tr gσ11 (mkS_sub (by decide) (by decide))
          refine ⟨fun hc => ?_, fun hc => ?_⟩
          · replace h := h.1 hc
            exact mf_X12_alive_b82 hq hK21 ih fσ11 h
          · replace h := h.2 hc
            refine ⟨h.1, ?_⟩; replace h := h.2
            intro v12 ev12; replace h := h v12 ev12
            exact mf_X12_alive_b82 hq hK21 ih fσ11 h
set_option maxHeartbeats 1000000 in
theorem mf_X12_alive_b255 {Q Q' : Int → St → Prop} {σ0 : St} (hq : ∀ (r : Int) (σ1 : St), Q r σ1 → Fr S_X12_alive σ0 σ1 → Q' r σ1) {K108 K108' : Int → Int → Int → Int → St → Prop} (hK108 : ∀ (x1 : Int) (x2 : Int) (x3 : Int) (x5 : Int) (σ : St), Fr S_X12_alive σ0 σ → K108 x1 x2 x3 x5 σ → K108' x1 x2 x3 x5 σ) {K118 K118' : Int → Int → Int → Int → Int → St → Prop} (hK118 : ∀ (x1 : Int) (x2 : Int) (x3 : Int) (x5 : Int) (x6 : Int) (σ : St), Fr S_X12_alive σ0 σ → K118 x1 x2 x3 x5 x6 σ → K118' x1 x2 x3 x5 x6 σ) {x1 x2 x3 x5 x6 : Int} {σ : St} (f0 : Fr S_X12_alive σ0 σ) (h : wp_X12_alive_b255 Q K108 K118 x1 x2 x3 x5 x6 σ) : wp_X12_alive_b255 Q' K108' K118' x1 x2 x3 x5 x6 σ := by
  unfold wp_X12_alive_b255 at h ⊢
  intro v24 ev24; replace h := h v24 ev24
  exact hK118 _ _ _ _ _ _ f0 h
set_option maxHeartbeats 1000000 in
theorem mf_X12_alive_b253 {Q Q' : Int → St → Prop} {σ0 : St} (hq : ∀ (r : Int) (σ1 : St), Q r σ1 → Fr S_X12_alive σ0 σ1 → Q' r σ1) {K108 K108' : Int → Int → Int → Int → St → Prop} (hK108 : ∀ (x1 : Int) (x2 : Int) (x3 : Int) (x5 : Int) (σ : St), Fr S_X12_alive σ0 σ → K108 x1 x2 x3 x5 σ → K108' x1 x2 x3 x5 σ) {K118 K118' : Int → Int → Int → Int → Int → St → Prop} (hK118 : ∀ (x1 : Int) (x2 : Int) (x3 : Int) (x5 : Int) (x6 : Int) (σ : St), Fr S_X12_alive σ0 σ → K118 x1 x2 x3 x5 x6 σ → K118' x1 x2 x3 x5 x6 σ) {x1 x3 x5 x6 s0 s1 : Int} {σ : St} (f0 : Fr S_X12_alive σ0 σ) (h : wp_X12_alive_b253 Q K108 K118 x1 x3 x5 x6 s0 s1 σ) : wp_X12_alive_b253 Q' K108' K118' x1 x3 x5 x6 s0 s1 σ := by
  unfold wp_X12_alive_b253 at h ⊢
  intro v26 ev26; replace h := h v26 ev26
  exact mf_X12_alive_b255 hq hK108 hK118 f0 h
set_option maxHeartbeats 1000000 in
theorem mf_X12_alive_b252 {Q Q' : Int → St → Prop} {σ0 : St} (hq : ∀ (r : Int) (σ1 : St), Q r σ1 → Fr S_X12_alive σ0 σ1 → Q' r σ1) {K108 K108' : Int → Int → Int → Int → St → Prop} (hK108 : ∀ (x1 : Int) (x2 : Int) (x3 : Int) (x5 : Int) (σ : St), Fr S_X12_alive σ0 σ → K108 x1 x2 x3 x5 σ → K108' x1 x2 x3 x5 σ) {K118 K118' : Int → Int → Int → Int → Int → St → Prop} (hK118 : ∀ (x1 : Int) (x2 : Int) (x3 : Int) (x5 : Int) (x6 : Int) (σ : St), Fr S_X12_alive σ0 σ → K118 x1 x2 x3 x5 x6 σ → K118' x1 x2 x3 x5 x6 σ) {x1 x3 x5 x6 s0 : Int} {σ : St} (f0 : Fr S_X12_alive σ0 σ) (h : wp_X12_alive_b252 Q K108 K118 x1 x3 x5 x6 s0 σ) : wp_X12_alive_b252 Q' K108' K118' x1 x3 x5 x6 s0 σ := by
  unfold wp_X12_alive_b252 at h ⊢
  exact mf_X12_alive_b253 hq hK108 hK118 f0 h
set_option maxHeartbeats 1000000 in
theorem mf_X12_alive_b214 {Q Q' : Int → St → Prop} {σ0 : St} (hq : ∀ (r : Int) (σ1 : St), Q r σ1 → Fr S_X12_alive σ0 σ1 → Q' r σ1) {K108 K108' : Int → Int → Int → Int → St → Prop} (hK108 : ∀ (x1 : Int) (x2 : Int) (x3 : Int) (x5 : Int) (σ : St), Fr S_X12_alive σ0 σ → K108 x1 x2 x3 x5 σ → K108' x1 x2 x3 x5 σ) {K118 K118' : Int → Int → Int → Int → Int → St → Prop} (hK118 : ∀ (x1 : Int) (x2 : Int) (x3 : Int) (x5 : Int) (x6 : Int) (σ : St), Fr S_X12_alive σ0 σ → K118 x1 x2 x3 x5 x6 σ → K118' x1 x2 x3 x5 x6 σ) {x1 x3 x5 x6 s0 s1 : Int} {σ : St} (f0 : Fr S_X12_alive σ0 σ) (h : wp_X12_alive_b214 Q K108 K118 x1 x3 x5 x6 s0 s1 σ) : wp_X12_alive_b214 Q' K108' K118' x1 x3 x5 x6 s0 s1 σ := by
  unfold wp_X12_alive_b214 at h ⊢
  intro v25 ev25; replace h := h v25 ev25
  refine ⟨h.1, ?_⟩; replace h := h.2
  refine ⟨fun hc => ?_, fun hc => ?_⟩
  · replace h := h.1 hc
    exact mf_X12_alive_b252 hq hK108 hK118 f0 h
  · replace h := h.2 hc
    refine ⟨h.1, ?_⟩; replace h := h.2
    refine ⟨fun hc => ?_, fun hc => ?_⟩
    · replace h := h.1 hc
      exact mf_X12_alive_b252 hq hK108 hK118 f0 h
    · replace h := h.2 hc
      refine ⟨h.1, ?_⟩; replace h := h.2
      exact mf_X12_alive_b253 hq hK108 hK118 f0 h
set_option maxHeartbeats 1000000 in
theorem mf_X12_alive_l118 {Q Q' : Int → St → Prop} {σ0 : St} (hq : ∀ (r : Int) (σ1 : St), Q r σ1 → Fr S_X12_alive σ0 σ1 → Q' r σ1) {K108 K108' : Int → Int → Int → Int → St → Prop} (hK108 : ∀ (x1 : Int) (x2 : Int) (x3 : Int) (x5 : Int) (σ : St), Fr S_X12_alive σ0 σ → K108 x1 x2 x3 x5 σ → K108' x1 x2 x3 x5 σ) : ∀ (n : Nat) (x1 : Int) (x2 : Int) (x3 : Int) (x5 : Int) (x6 : Int) (σ : St), Fr S_X12_alive σ0 σ → wp_X12_alive_l118 Q K108 n x1 x2 x3 x5 x6 σ → wp_X12_alive_l118 Q' K108' n x1 x2 x3 x5 x6 σ := by
  intro n
  induction n with
  | zero => intro _ _ _ _ _ _ _ h; exact h.elim
  | succ n ih =>
    intro x1 x2 x3 x5 x6 σ f0 h
    unfold wp_X12_alive_l118 at h ⊢
    refine ⟨fun hc => ?_, fun hc => ?_⟩
    · replace h := h.1 hc
      intro v13 ev13; replace h := h v13 ev13
      exact hK108 _ _ _ _ _ f0 h
    · replace h := h.2 hc
      refine mf_X12_isIn (fun r14 σ15 h gσ15 => ?_) Fr.rf h
      have fσ15 : Fr S_X12_alive σ0 σ15 := f0.tr gσ15 (mkS_sub (by decide) (by decide))
      refine ⟨fun hc => ?_, fun hc => ?_⟩
      · replace h := h.1 hc
        exact mf_X12_alive_b255 hq hK108 ih fσ15 h
      · replace h := h.2 hc
        refine ⟨h.1, ?_⟩; replace h := h.2
        refine mf_X12_isOf (fun r16 σ17 h gσ17 => ?_) Fr.rf h
        have fσ17 : Fr S_X12_alive σ0 σ17 := fσ15.tr gσ17 (mkS_sub (by decide) (by decide))
        refine ⟨fun hc => ?_, fun hc => ?_⟩
        · replace h := h.1 hc
          exact mf_X12_alive_b255 hq hK108 ih fσ17 h
        · replace h := h.2 hc
          refine ⟨h.1, ?_⟩; replace h := h.2
          refine mf_X12_isOf (fun r18 σ19 h gσ19 => ?_) Fr.rf h
          have fσ19 : Fr S_X12_alive σ0 σ19 := fσ17.tr gσ19 (mkS_sub (by decide) (by decide))
          refine ⟨fun hc => ?_, fun hc => ?_⟩
          · replace h := h.1 hc
            exact mf_X12_alive_b255 hq hK108 ih fσ19 h
          · replace h := h.2 hc
            refine ⟨h.1, ?_⟩; replace h := h.2
            refine mf_X12_isOf (fun r20 σ21 h gσ21 => ?_) Fr.rf h
            have fσ21 : Fr S_X12_alive σ0 σ21 := fσ19.tr gσ21 (mkS_sub (by decide) (by decide))
            refine ⟨fun hc => ?_, fun hc => ?_⟩
            · replace h := h.1 hc
              intro v22 ev22; replace h := h v22 ev22
              refine ⟨h.1, ?_⟩; replace h := h.2
              refine ⟨fun hc => ?_, fun hc => ?_⟩
              · replace h := h.1 hc
                exact mf_X12_alive_b214 hq hK108 ih fσ21 h
              · replace h := h.2 hc
                refine ⟨h.1, ?_⟩; replace h := h.2
                exact mf_X12_alive_b214 hq hK108 ih fσ21 h
            · replace h := h.2 hc
              exact mf_X12_alive_b255 hq hK108 ih fσ21 h
set_option maxHeartbeats 1000000 in
theorem mf_X12_alive_l108 {Q Q' : Int → St → Prop} {σ0 : St} (hq : ∀ (r : Int) (σ1 : St), Q r σ1 → Fr S_X12_alive σ0 σ1 → Q' r σ1) : ∀ (n : Nat) (x1 : Int) (x2 : Int) (x3 : Int) (x5 : Int) (σ : St), Fr S_X12_alive σ0 σ → wp_X12_alive_l108 Q n x1 x2 x3 x5 σ → wp_X12_alive_l108 Q' n x1 x2 x3 x5 σ := by
  intro n
  induction n with
  | zero => intro _ _ _ _ _ _ h; exact h.elim
  | succ n ih =>
    intro x1 x2 x3 x5 σ f0 h
    unfold wp_X12_alive_l108 at h ⊢
    refine ⟨fun hc => ?_, fun hc => ?_⟩
    · replace h := h.1 hc
      exact hq _ _ h f0
    · replace h := h.2 hc
      exact mf_X12_alive_l118 hq ih bigN _ _ _ _ _ _ f0 h
set_option maxHeartbeats 1000000 in
theorem mf_X12_alive_l21 {Q Q' : Int → St → Prop} {σ0 : St} (hq : ∀ (r : Int) (σ1 : St), Q r σ1 → Fr S_X12_alive σ0 σ1 → Q' r σ1) : ∀ (n : Nat) (x1 : Int) (x2 : Int) (σ : St), Fr S_X12_alive σ0 σ → wp_X12_alive_l21 Q n x1 x2 σ → wp_X12_alive_l21 Q' n x1 x2 σ := by
  intro n
  induction n with
  | zero => intro _ _ _ _ h; exact h.elim
  | succ n ih =>
    intro x1 x2 σ f0 h
    unfold wp_X12_alive_l21 at h ⊢
    refine ⟨fun hc => ?_, fun hc => ?_⟩
    · replace h := h.1 hc
      refine mf_X12_start (fun r2 σ3 h gσ3 => ?_) Fr.rf h
      have fσ3 : Fr S_X12_alive σ0 σ3 := f0.tr gσ3 (mkS_sub (by decide) (by decide))
      intro v4 ev4; replace h := h v4 ev4
      exact mf_X12_alive_l108 hq bigN _ _ _ _ _ fσ3 h
    · replace h := h.2 hc
      exact mf_X12_alive_l29 hq ih bigN _ _ _ _ f0 h
set_option maxHeartbeats 1000000 in
theorem mf_X12_alive {Q Q' : Int → St → Prop} {σ0 : St} (hq : ∀ (r : Int) (σ1 : St), Q r σ1 → Fr S_X12_alive σ0 σ1 → Q' r σ1) {σ : St} (f0 : Fr S_X12_alive σ0 σ) (h : wp_X12_alive  σ Q) : wp_X12_alive  σ Q' := by
  unfold wp_X12_alive at h ⊢
  refine ⟨fun hc => ?_, fun hc => ?_⟩
  · replace h := h.1 hc
    intro σ1 eσ1; replace h := h σ1 eσ1; have fσ1 : Fr S_X12_alive σ0 σ1 := by rw [eσ1]; exact f0.up rfl
    exact mf_X12_alive_l21 hq bigN _ _ _ fσ1 h
  · replace h := h.2 hc
    exact hq _ _ h f0
set_option maxHeartbeats 1000000 in
theorem mf_J13_bitCount_95d88_R {Q Q' : Int → St → Prop} {σ0 : St} (hq : ∀ (r : Int) (σ1 : St), Q r σ1 → Fr S_J13_bitCount_95d88_R σ0 σ1 → Q' r σ1) {x0 : Int} {σ : St} (f0 : Fr S_J13_bitCount_95d88_R σ0 σ) (h : wp_J13_bitCount_95d88_R x0 σ Q) : wp_J13_bitCount_95d88_R x0 σ Q' := by
  unfold wp_J13_bitCount_95d88_R at h ⊢
  intro v1 ev1; replace h := h v1 ev1
  intro v2 ev2; replace h := h v2 ev2
  intro v3 ev3; replace h := h v3 ev3
  intro v4 ev4; replace h := h v4 ev4
  intro v5 ev5; replace h := h v5 ev5
  intro v6 ev6; replace h := h v6 ev6
  exact hq _ _ h f0
set_option maxHeartbeats 1000000 in
theorem mf_X12_count {Q Q' : Int → St → Prop} {σ0 : St} (hq : ∀ (r : Int) (σ1 : St), Q r σ1 → Fr S_X12_count σ0 σ1 → Q' r σ1) {x1 : Int} {σ : St} (f0 : Fr S_X12_count σ0 σ) (h : wp_X12_count x1 σ Q) : wp_X12_count x1 σ Q' := by
  unfold wp_X12_count at h ⊢
  refine ⟨fun hs0 => ?_, fun hs1 => ?_, fun hs2 => ?_, fun hs3 => ?_, fun hs4 => ?_, fun hs5 => ?_, fun hs6 => ?_, fun hs7 => ?_, fun hs8 => ?_, fun hs9 => ?_, fun hs10 => ?_⟩
  · replace h := h.1 hs0
    exact hq _ _ h f0
  · replace h := h.2.1 hs1
    exact hq _ _ h f0
  · replace h := h.2.2.1 hs2
    refine mf_X12_start (fun r1 σ2 h gσ2 => ?_) Fr.rf h
    have fσ2 : Fr S_X12_count σ0 σ2 := f0.tr gσ2 (mkS_sub (by decide) (by decide))
    exact hq _ _ h fσ2
  · replace h := h.2.2.2.1 hs3
    exact hq _ _ h f0
  · replace h := h.2.2.2.2.1 hs4
    exact hq _ _ h f0
  · replace h := h.2.2.2.2.2.1 hs5
    exact hq _ _ h f0
  · replace h := h.2.2.2.2.2.2.1 hs6
    refine mf_X12_itemsMany (fun r3 σ4 h gσ4 => ?_) Fr.rf h
    have fσ4 : Fr S_X12_count σ0 σ4 := f0.tr gσ4 (mkS_sub (by decide) (by decide))
    exact hq _ _ h fσ4
  · replace h := h.2.2.2.2.2.2.2.1 hs7
    exact hq _ _ h f0
  · replace h := h.2.2.2.2.2.2.2.2.1 hs8
    exact hq _ _ h f0
  · replace h := h.2.2.2.2.2.2.2.2.2.1 hs9
    refine mf_J13_bitCount_95d88_R (fun r5 σ6 h gσ6 => ?_) Fr.rf h
    have fσ6 : Fr S_X12_count σ0 σ6 := f0.tr gσ6 (mkS_sub (by decide) (by decide))
    exact hq _ _ h fσ6
  · replace h := h.2.2.2.2.2.2.2.2.2.2 hs10
    exact hq _ _ h f0
