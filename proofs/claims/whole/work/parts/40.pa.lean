/-! The class's reader: items and the whole text. -/
theorem addbar_n (T : Nat → Nat) (v k : Nat) (h0 : k ≠ 0) (h1 : k ≠ 4 + T 0) : addbar T v k = T k := by unfold addbar; rw [if_neg h0, if_neg h1]
theorem addperson_n (T : Nat → Nat) (v k : Nat) (h0 : k ≠ 1) (h1 : k ≠ 10 + T 1) : addperson T v k = T k := by unfold addperson; rw [if_neg h0, if_neg h1]
theorem raining_n (T : Nat → Nat) (y v k : Nat) (h0 : k ≠ 13 + y) : raining T y v k = T k := by unfold raining; rw [if_neg h0]
theorem addpaint_n (T : Nat → Nat) (b y v k : Nat) (h0 : k ≠ 2) (h1 : k ≠ 39 + T 2) (h2 : k ≠ 31 + T 2) (h3 : k ≠ 23 + T 2) : addpaint T b y v k = T k := by unfold addpaint; rw [if_neg h0, if_neg h1, if_neg h2, if_neg h3]
theorem bump_n (T : Nat → Nat) (k : Nat) (h0 : k ≠ 3) : bump T k = T k := by unfold bump; rw [if_neg h0]
theorem bar_rd {S : St} {T : Nat → Nat} {v : Nat} (h : RDc S T) (h6 : T 0 < 6) (h1 : 1 ≤ v) (h3 : v ≤ 3) : RDc (setI (setA S 5 (upd (S.1 5) (T 0) (nI v))) 500 (nI (T 0 + 1))) (addbar T v) := by
  obtain ⟨⟨hB, hP, hN⟩, ⟨e0, e1, e2⟩, -, hm, hg, hr, hp⟩ := h
  have a0 : addbar T v 0 = T 0 + 1 := rfl
  have a1 : addbar T v 1 = T 1 := addbar_n T v 1 (by omega) (by omega)
  have a2 : addbar T v 2 = T 2 := addbar_n T v 2 (by omega) (by omega)
  refine ⟨⟨by omega, by omega, by omega⟩, ⟨by rw [a0]; rfl, by rw [a1]; exact e1, by rw [a2]; exact e2⟩, fun j hj => rfl, fun j hj => ?_, fun j hj => ?_, fun j hj => ?_, fun k hk => ?_⟩
  · show upd (S.1 5) (T 0) (nI v) j = nI (addbar T v (4 + j)) ∧ _
    by_cases c : j = T 0
    · subst c
      have : addbar T v (4 + T 0) = v := by unfold addbar; rw [if_neg (by omega), if_pos rfl]
      rw [pk_us, this]
      exact ⟨rfl, h1, h3⟩
    · rw [pk_un c, addbar_n T v _ (by omega) (by omega)]
      exact hm j (by omega)
  · rw [addbar_n T v _ (by omega) (by omega)]
    exact hg j (by omega)
  · rw [addbar_n T v _ (by omega) (by omega)]
    exact hr j hj
  · rw [a0, addbar_n T v _ (by omega) (by omega), addbar_n T v _ (by omega) (by omega), addbar_n T v _ (by omega) (by omega)]
    obtain ⟨p1, p2, p3⟩ := hp k (by omega)
    exact ⟨⟨p1.1, by omega⟩, p2, p3⟩
theorem person_rd {S : St} {T : Nat → Nat} {v : Nat} (h : RDc S T) (h6 : T 1 < 3) (h1 : 1 ≤ v) (h3 : v ≤ 9) : RDc (setI (setA S 6 (upd (S.1 6) (T 1) (nI v))) 501 (nI (T 1 + 1))) (addperson T v) := by
  obtain ⟨⟨hB, hP, hN⟩, ⟨e0, e1, e2⟩, -, hm, hg, hr, hp⟩ := h
  have a0 : addperson T v 0 = T 0 := addperson_n T v 0 (by omega) (by omega)
  have a1 : addperson T v 1 = T 1 + 1 := rfl
  have a2 : addperson T v 2 = T 2 := addperson_n T v 2 (by omega) (by omega)
  refine ⟨⟨by omega, by omega, by omega⟩, ⟨by rw [a0]; exact e0, by rw [a1]; rfl, by rw [a2]; exact e2⟩, fun j hj => rfl, fun j hj => ?_, fun j hj => ?_, fun j hj => ?_, fun k hk => ?_⟩
  · rw [addperson_n T v _ (by omega) (by omega)]
    exact hm j (by omega)
  · show upd (S.1 6) (T 1) (nI v) j = nI (addperson T v (10 + j)) ∧ _
    by_cases c : j = T 1
    · subst c
      have : addperson T v (10 + T 1) = v := by unfold addperson; rw [if_neg (by omega), if_pos rfl]
      rw [pk_us, this]
      exact ⟨rfl, h1, h3⟩
    · rw [pk_un c, addperson_n T v _ (by omega) (by omega)]
      exact hg j (by omega)
  · rw [addperson_n T v _ (by omega) (by omega)]
    exact hr j hj
  · rw [a0, addperson_n T v _ (by omega) (by omega), addperson_n T v _ (by omega) (by omega), addperson_n T v _ (by omega) (by omega)]
    exact hp k (by omega)
theorem rain_rd {S : St} {T : Nat → Nat} {y v : Nat} (h : RDc S T) (h6 : y < 10) (h3 : v ≤ 3) : RDc (setA S 7 (upd (S.1 7) y (nI v))) (raining T y v) := by
  obtain ⟨⟨hB, hP, hN⟩, ⟨e0, e1, e2⟩, -, hm, hg, hr, hp⟩ := h
  have a0 : raining T y v 0 = T 0 := raining_n T y v 0 (by omega)
  have a1 : raining T y v 1 = T 1 := raining_n T y v 1 (by omega)
  have a2 : raining T y v 2 = T 2 := raining_n T y v 2 (by omega)
  refine ⟨⟨by omega, by omega, by omega⟩, ⟨by rw [a0]; exact e0, by rw [a1]; exact e1, by rw [a2]; exact e2⟩, fun j hj => rfl, fun j hj => ?_, fun j hj => ?_, fun j hj => ?_, fun k hk => ?_⟩
  · rw [raining_n T y v _ (by omega)]
    exact hm j (by omega)
  · rw [raining_n T y v _ (by omega)]
    exact hg j (by omega)
  · show upd (S.1 7) y (nI v) j = nI (raining T y v (13 + j)) ∧ _
    by_cases c : j = y
    · subst c
      have : raining T j v (13 + j) = v := by unfold raining; rw [if_pos rfl]
      rw [pk_us, this]
      exact ⟨rfl, h3⟩
    · rw [pk_un c, raining_n T y v _ (by omega)]
      exact hr j hj
  · rw [a0, raining_n T y v _ (by omega), raining_n T y v _ (by omega), raining_n T y v _ (by omega)]
    exact hp k (by omega)
theorem paint_rd {S : St} {T : Nat → Nat} {b y v : Nat} (h : RDc S T) (h6 : T 2 < 8) (hb : b < T 0) (hy : y ≤ 9) (h1 : 1 ≤ v) (h3 : v ≤ 5) : RDc (setI (setA (setA (setA S 8 (upd (S.1 8) (T 2) (nI b))) 9 (upd (S.1 9) (T 2) (nI y))) 10 (upd (S.1 10) (T 2) (nI v))) 502 (nI (T 2 + 1))) (addpaint T b y v) := by
  obtain ⟨⟨hB, hP, hN⟩, ⟨e0, e1, e2⟩, -, hm, hg, hr, hp⟩ := h
  have nn := addpaint_n T b y v
  have a0 : addpaint T b y v 0 = T 0 := nn 0 (by omega) (by omega) (by omega) (by omega)
  have a1 : addpaint T b y v 1 = T 1 := nn 1 (by omega) (by omega) (by omega) (by omega)
  have a2 : addpaint T b y v 2 = T 2 + 1 := rfl
  refine ⟨⟨by omega, by omega, by omega⟩, ⟨by rw [a0]; exact e0, by rw [a1]; exact e1, by rw [a2]; rfl⟩, fun j hj => rfl, fun j hj => ?_, fun j hj => ?_, fun j hj => ?_, fun k hk => ?_⟩
  · rw [nn _ (by omega) (by omega) (by omega) (by omega)]
    exact hm j (by omega)
  · rw [nn _ (by omega) (by omega) (by omega) (by omega)]
    exact hg j (by omega)
  · rw [nn _ (by omega) (by omega) (by omega) (by omega)]
    exact hr j hj
  · show (upd (S.1 8) (T 2) (nI b) k = nI (addpaint T b y v (23 + k)) ∧ _) ∧ (upd (S.1 9) (T 2) (nI y) k = nI (addpaint T b y v (31 + k)) ∧ _) ∧ (upd (S.1 10) (T 2) (nI v) k = nI (addpaint T b y v (39 + k)) ∧ _)
    rw [a0]
    by_cases c : k = T 2
    · subst c
      have b1 : addpaint T b y v (23 + T 2) = b := by unfold addpaint; rw [if_neg (by omega), if_neg (by omega), if_neg (by omega), if_pos rfl]
      have b2 : addpaint T b y v (31 + T 2) = y := by unfold addpaint; rw [if_neg (by omega), if_neg (by omega), if_pos rfl]
      have b3 : addpaint T b y v (39 + T 2) = v := by unfold addpaint; rw [if_neg (by omega), if_pos rfl]
      rw [pk_us, pk_us, pk_us, b1, b2, b3]
      exact ⟨⟨rfl, hb⟩, ⟨rfl, hy⟩, ⟨rfl, h1, h3⟩⟩
    · rw [pk_un c, pk_un c, pk_un c, nn _ (by omega) (by omega) (by omega) (by omega), nn _ (by omega) (by omega) (by omega) (by omega), nn _ (by omega) (by omega) (by omega) (by omega)]
      exact hp k (by omega)
theorem bump_rd {S : St} {T : Nat → Nat} (h : RDc S T) : RDc S (bump T) := by
  obtain ⟨⟨hB, hP, hN⟩, ⟨e0, e1, e2⟩, -, hm, hg, hr, hp⟩ := h
  have a0 : bump T 0 = T 0 := bump_n T 0 (by omega)
  have a1 : bump T 1 = T 1 := bump_n T 1 (by omega)
  have a2 : bump T 2 = T 2 := bump_n T 2 (by omega)
  refine ⟨⟨by omega, by omega, by omega⟩, ⟨by rw [a0]; exact e0, by rw [a1]; exact e1, by rw [a2]; exact e2⟩, fun j hj => rfl, fun j hj => ?_, fun j hj => ?_, fun j hj => ?_, fun k hk => ?_⟩
  · rw [bump_n T _ (by omega)]
    exact hm j (by omega)
  · rw [bump_n T _ (by omega)]
    exact hg j (by omega)
  · rw [bump_n T _ (by omega)]
    exact hr j hj
  · rw [a0, bump_n T _ (by omega), bump_n T _ (by omega), bump_n T _ (by omega)]
    exact hp k (by omega)
/-- an item's reading, as its two ends ask -/
def ITP (R : PR) (u : Nat → Nat) (n : Nat) (S : St) (Q : Int32 → St → Prop) : Prop := (∀ x S2, R = .inl x → S2.1 203 0 = nI x → FR RLst S S2 → Q 0 S2) ∧ (∀ T' p' S2, R = .inr (T', p') → RDc S2 T' → CLS u S2 (tok u n p') → FR RLst S S2 → Q 1 S2)
theorem lt0_nI (v : Nat) (h : v < 2 ^ 31) : ¬ nI v < 0 := by
  rw [Int32.lt_iff_toInt_lt, nI_toInt h]
  have : (0 : Int32).toInt = 0 := rfl
  omega
theorem ge0_nI (v : Nat) (h : v < 2 ^ 31) : 0 ≤ nI v := by
  rw [Int32.le_iff_toInt_le, nI_toInt h]
  have : (0 : Int32).toInt = 0 := rfl
  omega
theorem bar_c {S : St} {n p : Nat} {u T : Nat → Nat} (hX : TX S n u) (hR : RDc S T) (hp : p ≤ n) (hC : CLS u S (tok u n p)) (hk : (tok u n p).2.1 = 1) {Q : Int32 → St → Prop} (h : ITP (barP u n T (tok u n p)) u n S Q) : w_X3_readBar S Q := by
  have hR' := hR
  obtain ⟨⟨hB, hP, hN⟩, ⟨e0, e1, e2⟩, -⟩ := hR'
  have e := tok_ends u n p hp
  obtain ⟨hl, hr⟩ := h
  unfold barP at hl hr
  unfold w_X3_readBar
  refine pk_lt (T 0) 6 (fun c => ?_) (fun c => ?_) e0 rfl
  · rw [if_neg (by omega)] at hl hr
    refine next_ok hX e.2.2.1 (hC.2.2.1 (by omega)) (fun S1 hC1 hF1 => ?_)
    have e1 := tok_ends u n (tok u n p).2.2 e.2.2.1
    refine take_ok (hX.fr hF1) e.2.2.1 hC1 1 4 (by omega) (fun z => br_t (by decide) ?_) (fun z S3 hC3 hF3 => br_f (lt0_nI _ (by have := figN_lt z; omega)) ?_)
    · rw [if_pos z] at hl
      exact hl _ _ rfl hC1.2.1 (hF1.mono RL4_sub)
    · rw [if_neg z] at hl hr
      have hv := figN_lt z
      unfold stopP at hl hr
      have hF13 := hF1.tr hF3
      refine takeStop_ok (hX.fr hF13) e1.2.2.1 hC3 (fun z => nb_f rfl ?_) (fun z S5 hC5 hF5 => nb_t (by decide) ?_)
      · rw [if_neg z] at hl
        exact hl _ _ rfl hC3.2.1 (hF13.mono RL4_sub)
      · rw [if_pos z] at hr
        have hF15 := hF13.tr hF5
        have hR5 := hR.fr hF15
        have e05 : S5.1 500 0 = nI (T 0) := hR5.2.1.1
        unfold w_X2_addBar
        refine ⟨vin' (T 0) (by omega) e05, ?_⟩
        rintro _ rfl _ rfl
        rw [e05, nI_clamp (by omega)]
        have e06 : (setA S5 5 (upd (S5.1 5) (T 0) (nI (figN u (tok u n (tok u n p).2.2) 1 4 - 1)))).1 500 0 + 1 = nI (T 0 + 1) := by
          show S5.1 500 0 + 1 = _
          rw [e05, nI_1]
        rw [e06]
        exact hr _ _ _ rfl (bar_rd hR5 c hv.1 (by omega)) hC5 (FR.set (FR.set (hF15.mono RL4_sub) (by decide)) (by decide))
  · rw [if_pos (by omega)] at hl
    exact hl _ _ rfl hC.2.1 FR.rf
theorem person_c {S : St} {n p : Nat} {u T : Nat → Nat} (hX : TX S n u) (hR : RDc S T) (hp : p ≤ n) (hC : CLS u S (tok u n p)) (hk : (tok u n p).2.1 = 1) {Q : Int32 → St → Prop} (h : ITP (personP u n T (tok u n p)) u n S Q) : w_X3_readPerson S Q := by
  have hR' := hR
  obtain ⟨⟨hB, hP, hN⟩, ⟨e0, e1, e2⟩, -⟩ := hR'
  have e := tok_ends u n p hp
  obtain ⟨hl, hr⟩ := h
  unfold personP at hl hr
  unfold w_X3_readPerson
  refine pk_lt (T 1) 3 (fun c => ?_) (fun c => ?_) e1 rfl
  · rw [if_neg (by omega)] at hl hr
    refine next_ok hX e.2.2.1 (hC.2.2.1 (by omega)) (fun S1 hC1 hF1 => ?_)
    have e1 := tok_ends u n (tok u n p).2.2 e.2.2.1
    refine take_ok (hX.fr hF1) e.2.2.1 hC1 1 10 (by omega) (fun z => br_t (by decide) ?_) (fun z S3 hC3 hF3 => br_f (lt0_nI _ (by have := figN_lt z; omega)) ?_)
    · rw [if_pos z] at hl
      exact hl _ _ rfl hC1.2.1 (hF1.mono RL4_sub)
    · rw [if_neg z] at hl hr
      have hv := figN_lt z
      unfold stopP at hl hr
      have hF13 := hF1.tr hF3
      refine takeStop_ok (hX.fr hF13) e1.2.2.1 hC3 (fun z => nb_f rfl ?_) (fun z S5 hC5 hF5 => nb_t (by decide) ?_)
      · rw [if_neg z] at hl
        exact hl _ _ rfl hC3.2.1 (hF13.mono RL4_sub)
      · rw [if_pos z] at hr
        have hF15 := hF13.tr hF5
        have hR5 := hR.fr hF15
        have e05 : S5.1 501 0 = nI (T 1) := hR5.2.1.2.1
        unfold w_X2_addPerson
        refine ⟨vin' (T 1) (by omega) e05, ?_⟩
        rintro _ rfl _ rfl
        rw [e05, nI_clamp (by omega)]
        have e06 : (setA S5 6 (upd (S5.1 6) (T 1) (nI (figN u (tok u n (tok u n p).2.2) 1 10 - 1)))).1 501 0 + 1 = nI (T 1 + 1) := by
          show S5.1 501 0 + 1 = _
          rw [e05, nI_1]
        rw [e06]
        exact hr _ _ _ rfl (person_rd hR5 c hv.1 (by omega)) hC5 (FR.set (FR.set (hF15.mono RL4_sub) (by decide)) (by decide))
  · rw [if_pos (by omega)] at hl
    exact hl _ _ rfl hC.2.1 FR.rf
theorem rain_c {S : St} {n p : Nat} {u T : Nat → Nat} (hX : TX S n u) (hR : RDc S T) (hp : p ≤ n) (hC : CLS u S (tok u n p)) (hk : (tok u n p).2.1 = 1) {Q : Int32 → St → Prop} (h : ITP (rainP u n T (tok u n p)) u n S Q) : w_X3_readRain S Q := by
  have e := tok_ends u n p hp
  obtain ⟨hl, hr⟩ := h
  unfold rainP at hl hr
  unfold w_X3_readRain
  refine next_ok hX e.2.2.1 (hC.2.2.1 (by omega)) (fun S1 hC1 hF1 => ?_)
  have e1 := tok_ends u n (tok u n p).2.2 e.2.2.1
  refine take_ok (hX.fr hF1) e.2.2.1 hC1 0 10 (by omega) (fun z => br_f (by decide) ?_) (fun z S3 hC3 hF3 => br_t (ge0_nI _ (by have := figN_lt z; omega)) ?_)
  · rw [if_pos z] at hl
    exact hl _ _ rfl hC1.2.1 (hF1.mono RL4_sub)
  · rw [if_neg z] at hl hr
    have hy := figN_lt z
    unfold rainQ at hl hr
    have hF13 := hF1.tr hF3
    have e2 := tok_ends u n _ e1.2.2.1
    refine take_ok (hX.fr hF13) e1.2.2.1 hC3 0 4 (by omega) (fun z => br_t (by decide) ?_) (fun z S5 hC5 hF5 => br_f (lt0_nI _ (by have := figN_lt z; omega)) ?_)
    · rw [if_pos z] at hl
      exact hl _ _ rfl hC3.2.1 (hF13.mono RL4_sub)
    · rw [if_neg z] at hl hr
      have hv := figN_lt z
      unfold stopP at hl hr
      have hF15 := hF13.tr hF5
      refine takeStop_ok (hX.fr hF15) e2.2.2.1 hC5 (fun z => nb_f rfl ?_) (fun z S7 hC7 hF7 => nb_t (by decide) ⟨vin (by omega), ?_⟩)
      · rw [if_neg z] at hl
        exact hl _ _ rfl hC5.2.1 (hF15.mono RL4_sub)
      · rw [if_pos z] at hr
        have hF17 := hF15.tr hF7
        rintro _ rfl
        rw [nI_clamp (by omega)]
        exact hr _ _ _ rfl (rain_rd (hR.fr hF17) hy.2 (by omega)) hC7 (FR.set (hF17.mono RL4_sub) (by decide))
theorem paint_c {S : St} {n p : Nat} {u T : Nat → Nat} (hX : TX S n u) (hR : RDc S T) (hp : p ≤ n) (hC : CLS u S (tok u n p)) (hk : (tok u n p).2.1 = 1) {Q : Int32 → St → Prop} (h : ITP (paintP u n T (tok u n p)) u n S Q) : w_X3_readPaint S Q := by
  have hR' := hR
  obtain ⟨⟨hB, hP, hN⟩, ⟨e0, e1, e2⟩, -⟩ := hR'
  have e := tok_ends u n p hp
  obtain ⟨hl, hr⟩ := h
  unfold paintP at hl hr
  unfold w_X3_readPaint
  refine pk_lt (T 2) 8 (fun c => ?_) (fun c => ?_) e2 rfl
  · rw [if_neg (by omega)] at hl hr
    refine next_ok hX e.2.2.1 (hC.2.2.1 (by omega)) (fun S1 hC1 hF1 => ?_)
    have e1 := tok_ends u n (tok u n p).2.2 e.2.2.1
    have hB1 : S1.1 500 0 - 1 = nI (T 0) - 1 := by rw [hF1.1 500 (by decide), e0]
    refine take_ok (hX.fr hF1) e.2.2.1 hC1 0 (T 0) (by omega) (fun z => br_f (by decide) ?_) (fun z S3 hC3 hF3 => br_t (ge0_nI _ (by have := figN_lt z; omega)) ?_) rfl hB1
    · rw [if_pos z] at hl
      exact hl _ _ rfl hC1.2.1 (hF1.mono RL4_sub)
    · rw [if_neg z] at hl hr
      have hb := figN_lt z
      unfold paintQ at hl hr
      have hF13 := hF1.tr hF3
      have e2 := tok_ends u n _ e1.2.2.1
      refine take_ok (hX.fr hF13) e1.2.2.1 hC3 0 10 (by omega) (fun z => br_f (by decide) ?_) (fun z S5 hC5 hF5 => br_t (ge0_nI _ (by have := figN_lt z; omega)) ?_)
      · rw [if_pos z] at hl
        exact hl _ _ rfl hC3.2.1 (hF13.mono RL4_sub)
      · rw [if_neg z] at hl hr
        have hy := figN_lt z
        unfold paintR at hl hr
        have hF15 := hF13.tr hF5
        have e3 := tok_ends u n _ e2.2.2.1
        refine take_ok (hX.fr hF15) e2.2.2.1 hC5 1 6 (by omega) (fun z => br_t (by decide) ?_) (fun z S7 hC7 hF7 => br_f (lt0_nI _ (by have := figN_lt z; omega)) ?_)
        · rw [if_pos z] at hl
          exact hl _ _ rfl hC5.2.1 (hF15.mono RL4_sub)
        · rw [if_neg z] at hl hr
          have hv := figN_lt z
          unfold stopP at hl hr
          have hF17 := hF15.tr hF7
          refine takeStop_ok (hX.fr hF17) e3.2.2.1 hC7 (fun z => nb_f rfl ?_) (fun z S9 hC9 hF9 => nb_t (by decide) ?_)
          · rw [if_neg z] at hl
            exact hl _ _ rfl hC7.2.1 (hF17.mono RL4_sub)
          · rw [if_pos z] at hr
            have hF19 := hF17.tr hF9
            have hR9 := hR.fr hF19
            have e09 : S9.1 502 0 = nI (T 2) := hR9.2.1.2.2
            generalize figN u (tok u n (tok u n p).2.2) 0 (T 0) - 1 = b at *
            generalize figN u (tok u n (tok u n (tok u n p).2.2).2.2) 0 10 - 1 = y at *
            generalize figN u (tok u n (tok u n (tok u n (tok u n p).2.2).2.2).2.2) 1 6 - 1 = v at *
            unfold w_X2_addPaint
            refine ⟨vin' (T 2) (by omega) e09, ?_⟩
            rintro _ rfl
            refine ⟨vin' (T 2) (by omega) e09, ?_⟩
            rintro _ rfl
            refine ⟨vin' (T 2) (by omega) e09, ?_⟩
            rintro _ rfl _ rfl
            have hS : setI (setA (setA (setA S9 8 (upd (S9.1 8) (S9.1 502 0).toNatClampNeg (nI b))) 9 (upd (S9.1 9) (S9.1 502 0).toNatClampNeg (nI y))) 10 (upd (S9.1 10) (S9.1 502 0).toNatClampNeg (nI v))) 502 (S9.1 502 0 + 1) = setI (setA (setA (setA S9 8 (upd (S9.1 8) (T 2) (nI b))) 9 (upd (S9.1 9) (T 2) (nI y))) 10 (upd (S9.1 10) (T 2) (nI v))) 502 (nI (T 2 + 1)) := by
              rw [e09, nI_clamp (by omega), nI_1]
            have goal := hr _ _ (setI (setA (setA (setA S9 8 (upd (S9.1 8) (T 2) (nI b))) 9 (upd (S9.1 9) (T 2) (nI y))) 10 (upd (S9.1 10) (T 2) (nI v))) 502 (nI (T 2 + 1))) rfl (paint_rd hR9 c hb.2 (by omega) hv.1 (by omega)) hC9 (FR.set (FR.set (FR.set (FR.set (hF19.mono RL4_sub) (by decide)) (by decide)) (by decide)) (by decide))
            rw [← hS] at goal
            exact goal
  · rw [if_pos (by omega)] at hl
    exact hl _ _ rfl hC.2.1 FR.rf
theorem item_c {S : St} {n p : Nat} {u T : Nat → Nat} (hX : TX S n u) (hR : RDc S T) (hp : p ≤ n) (hC : CLS u S (tok u n p)) {Q : Int32 → St → Prop} (h : ITP (itemP u n T (tok u n p)) u n S Q) : w_X3_readItem S Q := by
  unfold itemP at h
  unfold w_X3_readItem
  have hC' := hC
  obtain ⟨c1, -⟩ := hC'
  have hkk := tok_kind u n p
  by_cases hk : (tok u n p).2.1 = 1
  · rw [if_neg (by omega), hk] at c1
    refine br_t c1 ?_
    refine isWord_ok hX hp hC hk (by decide) (fun a => br_f (by decide) ?_) (fun a => br_t rfl ?_)
    · rw [if_pos a] at h
      exact bar_c hX hR hp hC hk ⟨fun x S2 q w f => ⟨zok0, h.1 x S2 q w f⟩, fun T' p' S2 q r w f => ⟨zok1, h.2 T' p' S2 q r w f⟩⟩
    · rw [if_neg a] at h
      refine isWord_ok hX hp hC hk (by decide) (fun a => br_f (by decide) ?_) (fun a => br_t rfl ?_)
      · rw [if_pos a] at h
        exact person_c hX hR hp hC hk ⟨fun x S2 q w f => ⟨zok0, h.1 x S2 q w f⟩, fun T' p' S2 q r w f => ⟨zok1, h.2 T' p' S2 q r w f⟩⟩
      · rw [if_neg a] at h
        refine isWord_ok hX hp hC hk (by decide) (fun a => br_f (by decide) ?_) (fun a => br_t rfl ?_)
        · rw [if_pos a] at h
          exact rain_c hX hR hp hC hk ⟨fun x S2 q w f => ⟨zok0, h.1 x S2 q w f⟩, fun T' p' S2 q r w f => ⟨zok1, h.2 T' p' S2 q r w f⟩⟩
        · rw [if_neg a] at h
          refine isWord_ok hX hp hC hk (by decide) (fun a => br_f (by decide) ?_) (fun a => br_t rfl ?_)
          · rw [if_pos a] at h
            exact paint_c hX hR hp hC hk ⟨fun x S2 q w f => br_t rfl (h.1 x S2 q w f), fun T' p' S2 q r w f => br_f (by decide) (h.2 T' p' S2 q r w f)⟩
          · rw [if_neg a] at h
            exact h.1 _ _ rfl hC.2.1 FR.rf
  · refine br_f ?_ ?_
    · rw [c1]
      intro q
      have q2 := nI_inj (b := 1) (by split <;> (try split) <;> omega) (by omega) q
      split at q2
      · split at q2 <;> omega
      · exact hk q2
    · rw [if_neg (fun q => hk q.1), if_neg (fun q => hk q.1), if_neg (fun q => hk q.1), if_neg (fun q => hk q.1)] at h
      exact h.1 _ _ rfl hC.2.1 FR.rf
theorem read_loop {n : Nat} {u : Nat → Nat} {Q : Int32 → St → Prop} {kx : St → Int32 → Prop} : ∀ (f i p : Nat) (T : Nat → Nat) (S : St), TX S n u → RDc S T → p ≤ n → n ≤ p + f → i ≤ p → T 3 = i → CLS u S (tok u n p) →
    (∀ x S2, parse u n (f + 1) T (tok u n p) = .inl x → S2.1 203 0 = nI x → FR RLst S S2 → Q (-10 - nI x) S2) → (∀ T' S2, parse u n (f + 1) T (tok u n p) = .inr T' → T' 3 ≤ 300 → RDc S2 T' → FR RLst S S2 → kx S2 (nI (T' 3))) → X3_read_L20 Q kx (f + 1) S (nI i) (nI i) := by
  intro f
  induction f with
  | zero =>
    intro i p T S hX hR hp hf hi h3 hC hl hr
    obtain rfl : p = n := by omega
    have hk := tok_n u p
    have hn := hX.1
    rw [parse, if_pos hk] at hr
    have fin := hr T S rfl (by omega) hR FR.rf
    rw [h3] at fin
    rw [X3_read_L20]
    refine pk_le 300 i (fun _ => fin) (fun _ => br_t ?_ fin) rfl rfl
    rw [hC.1, hk]
    rfl
  | succ f ih =>
    intro i p T S hX hR hp hf hi h3 hC hl hr
    have hn := hX.1
    have e := tok_ends u n p hp
    have hkk := tok_kind u n p
    rw [parse] at hl hr
    rw [X3_read_L20]
    by_cases hk : (tok u n p).2.1 = 0
    · rw [if_pos hk] at hr
      have fin := hr T S rfl (by omega) hR FR.rf
      rw [h3] at fin
      refine pk_le 300 i (fun _ => fin) (fun _ => br_t ?_ fin) rfl rfl
      rw [hC.1, hk]
      rfl
    · rw [if_neg hk] at hl hr
      have hlt := e.2.2.2 hk
      refine pk_le 300 i (fun c => absurd c (by omega)) (fun _ => br_f ?_ ?_) rfl rfl
      · rw [hC.1]
        intro q
        have q2 := nI_inj (b := 0) (by split <;> (try split) <;> omega) (by omega) q
        split at q2
        · split at q2 <;> omega
        · exact hk q2
      · refine item_c hX hR hp hC ⟨fun x S2 q w fr => nb_f rfl ?_, fun T' p' S2 q r w fr => nb_t (by decide) ?_⟩
        · rw [q] at hl
          rw [w]
          exact hl x S2 rfl w fr
        · rw [q] at hl hr
          obtain ⟨q1, q2, q3⟩ := itemP_inr e.2.2.1 q
          rintro _ rfl _ rfl
          rw [nI_1]
          refine ih (i + 1) p' (bump T') S2 (hX.fr fr) (bump_rd r) q2 (by omega) (by omega) ?_ w (fun x S3 a b c => hl x S3 a b (fr.tr c)) (fun T2 S3 a a2 b c => hr T2 S3 a a2 b (fr.tr c))
          show T' 3 + 1 = i + 1
          omega
def T00 : Nat → Nat := fun j => if 13 ≤ j ∧ j ≤ 22 then 1 else 0
/-- the class's reading of the whole text -/
theorem read_ok {S : St} {n : Nat} {u : Nat → Nat} (hX : TX S n u) {Q : Int32 → St → Prop} (hl : ∀ x S2, parse u n (n + 1) T00 (tok u n 0) = .inl x → FR RLst S S2 → Q (-10 - nI x) S2) (hr : ∀ T' S2, parse u n (n + 1) T00 (tok u n 0) = .inr T' → T' 3 ≤ 300 → RDc S2 T' → FR RLst S S2 → Q (nI (T' 3)) S2) : w_X3_read S Q := by
  unfold w_X3_read w_X2_empty
  rintro _ rfl _ rfl _ rfl _ rfl _ rfl
  have hF0 : FR RLst S (setI (setA (setI (setI (setI S 500 0) 501 0) 502 0) 7 (fun _ => 1)) 204 0) := FR.set (FR.set (FR.set (FR.set (FR.set FR.rf (by decide)) (by decide)) (by decide)) (by decide)) (by decide)
  have hX0 := hX.fr hF0
  refine next_ok hX0 (Nat.zero_le n) rfl (fun S3 hC hF => ?_)
  have hF3 := hF0.tr (hF.mono RL4_sub)
  refine ⟨n + 1, ?_⟩
  have hR : RDc S3 T00 := by
    refine RDc.fr ?_ hF
    refine ⟨⟨by decide, by decide, by decide⟩, ⟨rfl, rfl, rfl⟩, fun j hj => rfl, fun j hj => absurd hj (Nat.not_lt_zero j), fun j hj => absurd hj (Nat.not_lt_zero j), fun j hj => ?_, fun k hk => absurd hk (Nat.not_lt_zero k)⟩
    have e : T00 (13 + j) = 1 := by unfold T00; rw [if_pos (by omega)]
    rw [e]
    exact ⟨rfl, by omega⟩
  exact read_loop n 0 0 T00 S3 (hX.fr hF3) hR (Nat.zero_le n) (by omega) (Nat.le_refl 0) rfl hC (fun x S2 a b c => hl x S2 a (hF3.tr c)) (fun T' S2 a a2 b c => hr T' S2 a a2 b (hF3.tr c))
