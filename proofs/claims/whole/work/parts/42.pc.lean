/-! The model's reader: verb, figure, items, the whole text; tells; square. -/
def wdf (i : Nat) : Nat → Nat := fun k => (wd i).getD k 0
theorem val_cong {u w : Nat → Nat} {s : Nat} : ∀ {k : Nat}, (∀ q, q < k → u (s + q) = w (0 + q)) → val u s k = val w 0 k
  | 0, _ => rfl
  | k + 1, h => by rw [val, val, val_cong (fun q hq => h q (by omega)), h k (by omega)]
theorem wd_pos : ∀ i, i < 4 → ∀ q, q < (wd i).length → 1 ≤ wdf i (0 + q) ∧ wdf i (0 + q) < 256 := by decide +kernel
theorem wd_val : ∀ i, i < 4 → val (wdf i) 0 (wd i).length < 2 ^ 63 := by decide +kernel
theorem word_iff {u : Nat → Nat} {t : Nat × Nat × Nat} {i : Nat} (hi : i < 4) (hk : t.2.1 = 1) (hz : t.2.2 - t.1 < 7) (hl : ∀ q, q < t.2.2 - t.1 → 97 ≤ u (t.1 + q) ∧ u (t.1 + q) ≤ 122) : Int64.ofNat (val u t.1 (t.2.2 - t.1)) = Int64.ofNat (val (wdf i) 0 (wd i).length) ↔ isW u t i := by
  have hb : val u t.1 (t.2.2 - t.1) < 2 ^ 63 := by
    have h1 := val_lt (u := u) (s := t.1) (k := t.2.2 - t.1) (fun q hq => by have := hl q hq; omega)
    have h2 : 256 ^ (t.2.2 - t.1) ≤ 256 ^ 6 := Nat.pow_le_pow_right (by omega) (by omega)
    have h3 : 256 ^ 6 < 2 ^ 63 := by decide
    omega
  constructor
  · intro q
    have q2 := long_inj hb (wd_val i hi) q
    obtain ⟨a, b⟩ := val_inj (fun q hq => by have := hl q hq; omega) (wd_pos i hi) q2
    refine ⟨hk, a, fun k hk2 => ?_⟩
    have := b k (by omega)
    rw [Nat.zero_add] at this
    exact this
  · intro q
    obtain ⟨-, a, b⟩ := q
    rw [a]
    congr 1
    exact val_cong (fun q hq => by rw [Nat.zero_add]; exact b q hq)
theorem verb_ok {S : St} {n p : Nat} {u : Nat → Nat} (hX : TXm S n u) (hp : p ≤ n) (hM : MOD S (tok u n p)) (hk : (tok u n p).2.1 ≠ 0) {Q : Int32 → Prop} (h : Q (if isW u (tok u n p) 0 then 0 else if isW u (tok u n p) 1 then 1 else if isW u (tok u n p) 2 then 2 else if isW u (tok u n p) 3 then 3 else -9)) : w_X7_verb S Q := by
  have n3 := hX.1
  have e := tok_ends u n p hp
  have hlet := @tok_let u n p
  have hkd := tok_kind u n p
  obtain ⟨a9, a10, a11, a8⟩ := hM
  have c0 : (6447474 : Int64) = Int64.ofNat (val (wdf 0) 0 (wd 0).length) := by decide +kernel
  have c1 : (123581014175598 : Int64) = Int64.ofNat (val (wdf 1) 0 (wd 1).length) := by decide +kernel
  have c2 : (1918986606 : Int64) = Int64.ofNat (val (wdf 2) 0 (wd 2).length) := by decide +kernel
  have c3 : (482670636660 : Int64) = Int64.ofNat (val (wdf 3) 0 (wd 3).length) := by decide +kernel
  generalize tok u n p = t at *
  have tail : ∀ v : Int64, (v = 6447474 ↔ isW u t 0) → (v = 123581014175598 ↔ isW u t 1) → (v = 1918986606 ↔ isW u t 2) → (v = 482670636660 ↔ isW u t 3) → ((¬ (lg_cmp v (6447474 : Int64)) = 0 → ((¬ (lg_cmp v (123581014175598 : Int64)) = 0 → ((¬ (lg_cmp v (1918986606 : Int64)) = 0 → ((¬ (lg_cmp v (482670636660 : Int64)) = 0 → Q (-9)) ∧ ((lg_cmp v (482670636660 : Int64)) = 0 → Q 3))) ∧ ((lg_cmp v (1918986606 : Int64)) = 0 → Q 2))) ∧ ((lg_cmp v (123581014175598 : Int64)) = 0 → Q 1))) ∧ ((lg_cmp v (6447474 : Int64)) = 0 → Q 0)) := by
    intro v h0 h1 h2 h3
    rw [lg_cmp_eq, lg_cmp_eq, lg_cmp_eq, lg_cmp_eq, h0, h1, h2, h3]
    by_cases d0 : isW u t 0
    · rw [if_pos d0] at h
      exact nb_f d0 h
    · rw [if_neg d0] at h
      refine nb_t d0 ?_
      by_cases d1 : isW u t 1
      · rw [if_pos d1] at h
        exact nb_f d1 h
      · rw [if_neg d1] at h
        refine nb_t d1 ?_
        by_cases d2 : isW u t 2
        · rw [if_pos d2] at h
          exact nb_f d2 h
        · rw [if_neg d2] at h
          refine nb_t d2 ?_
          by_cases d3 : isW u t 3
          · rw [if_pos d3] at h
            exact nb_f d3 h
          · rw [if_neg d3] at h
            exact nb_t d3 h
  unfold w_X7_verb
  by_cases c : t.2.1 = 1 ∧ t.2.2 - t.1 < 7
  · have hl : ∀ q, q < t.2.2 - t.1 → 97 ≤ u (t.1 + q) ∧ u (t.1 + q) ≤ 122 := fun q hq => hlet c.1 (t.1 + q) (by omega) (by omega)
    refine ⟨t.2.2 - t.1 + 1, verb_loop hX c.2 (by omega) (by rw [a9, c.1]; rfl) a10 a11 (tail _ ?_ ?_ ?_ ?_) (t.2.2 - t.1) 0 (by omega)⟩
    · rw [c0]
      exact word_iff (by decide) c.1 c.2 hl
    · rw [c1]
      exact word_iff (by decide) c.1 c.2 hl
    · rw [c2]
      exact word_iff (by decide) c.1 c.2 hl
    · rw [c3]
      exact word_iff (by decide) c.1 c.2 hl
  · refine ⟨1, ?_⟩
    have no : ∀ i, i < 4 → ¬ isW u t i := fun i hi q => c ⟨q.1, by
      have h6 := (wd_len i hi).2
      have h7 := q.2.1
      omega⟩
    have fin := tail 0 ⟨fun q => absurd q (by decide), fun q => absurd q (no 0 (by decide))⟩ ⟨fun q => absurd q (by decide), fun q => absurd q (no 1 (by decide))⟩ ⟨fun q => absurd q (by decide), fun q => absurd q (no 2 (by decide))⟩ ⟨fun q => absurd q (by decide), fun q => absurd q (no 3 (by decide))⟩
    rw [X7_verb_L4]
    refine pk_le (t.2.2 - t.1) 0 (fun _ => fin) (fun _ => ?_) a11 rfl
    refine pk_le 7 (t.2.2 - t.1) (fun _ => fin) (fun d => ?_) rfl a11
    refine nb_t ?_ fin
    rw [a9]
    intro q
    exact c ⟨nI_inj (b := 1) (by omega) (by omega) q, by omega⟩
theorem ne9 {v : Nat} (h : v < 2 ^ 31) : ¬ nI v = -9 := by
  intro q
  have q2 := congrArg Int32.toInt q
  rw [nI_toInt h] at q2
  have : (-9 : Int32).toInt = -9 := by decide
  omega
theorem figure_ok {S : St} {n p : Nat} {u : Nat → Nat} (hX : TXm S n u) (hp : p ≤ n) (e8 : S.1 5008 0 = nI p) {x y : Int32} (lo hi1 : Nat) (hh : hi1 ≤ 10) {Q : Int32 → St → Prop}
    (h0 : figN u (tok u n p) lo hi1 = 0 → ∀ S2, MOD S2 (tok u n p) → FR ML4 S S2 → Q (-9) S2) (h1 : figN u (tok u n p) lo hi1 ≠ 0 → ∀ S2, MOD S2 (tok u n p) → FR ML4 S S2 → Q (nI (figN u (tok u n p) lo hi1 - 1)) S2) (hx : x = nI lo := by rfl) (hy : y = nI hi1 - 1 := by decide) (hl : lo < 2 ^ 31 := by omega) : w_X7_figure S x y Q := by
  have n3 := hX.1
  unfold w_X7_figure
  refine token_ok hX hp e8 (fun S1 hM hF => ?_)
  have hX1 := hX.fr hF
  have e := tok_ends u n p hp
  have hkd := tok_kind u n p
  have hdig := @tok_dig u n p
  have g0 := fun z => h0 z S1 hM hF
  have g1 := fun z => h1 z S1 hM hF
  obtain ⟨a9, a10, a11, a8⟩ := hM
  generalize tok u n p = t at *
  refine byteAt_ok hX1 t.1 ?_ a10
  rintro _ rfl
  refine pk_eqN t.2.1 2 (fun c => g0 ?_) (fun c => ?_) a9 rfl
  · unfold figN
    rw [if_neg (fun q => c q.1)]
  · have hlt := e.2.2.2 (by omega)
    have hd := hdig c t.1 (Nat.le_refl _) hlt
    refine pk_eqN (t.2.2 - t.1) 1 (fun d => g0 ?_) (fun d => ?_) a11 rfl
    · unfold figN
      rw [if_neg (fun q => d (by omega))]
    · rw [if_pos (by omega : t.1 < n), show (48 : Int32) = nI 48 from rfl, pk_sub (by omega)]
      by_cases z : lo ≤ u t.1 - 48 ∧ u t.1 - 48 < hi1
      · have hf : figN u t lo hi1 = (u t.1 - 48) + 1 := by
          unfold figN
          rw [if_pos ⟨c, by omega, z.1, z.2⟩]
        have g1' := g1 (by omega)
        rw [hf, Nat.add_sub_cancel] at g1'
        exact in_in lo (hi1 - 1) (u t.1 - 48) z.1 (by omega) (br_f (by decide) g1') rfl hx (by rw [hy, nI_m1 _ (by omega)])
      · have hf : figN u t lo hi1 = 0 := by
          unfold figN
          rw [if_neg (fun q => z q.2.2)]
        refine in_out ?_ (br_t rfl (g0 hf))
        subst hx
        subst hy
        by_cases z1 : u t.1 - 48 < lo
        · left
          rw [Int32.lt_iff_toInt_lt, nI_toInt (by omega), nI_toInt hl]
          omega
        · right
          by_cases z2 : hi1 = 0
          · subst z2
            rw [Int32.lt_iff_toInt_lt, nI_toInt (by omega)]
            have : (nI 0 - 1).toInt = -1 := by decide
            omega
          · rw [nI_m1 _ (by omega), Int32.lt_iff_toInt_lt, nI_toInt (by omega), nI_toInt (by omega)]
            omega
def DRm (S : St) (T : Nat → Nat) : Prop := (T 0 ≤ 6 ∧ T 1 ≤ 3 ∧ T 2 ≤ 8) ∧ ∀ j, j < 47 → S.1 52 j = nI (T j)
theorem DRm.fr {L : List Nat} {S S2 : St} {T : Nat → Nat} (h : DRm S T) (hF : FR L S S2) (hL : 52 ∉ L := by decide) : DRm S2 T := by
  unfold DRm at h ⊢
  rw [hF.1 52 hL]
  exact h
def ITM (R : PR) (u : Nat → Nat) (n : Nat) (S : St) (Q : Int32 → St → Prop) : Prop := (∀ x S2, R = .inl x → S2.1 5010 0 = nI x → FR MLst S S2 → Q 0 S2) ∧ (∀ T' q S2, R = stopP u n q T' → q ≤ n → DRm S2 T' → S2.1 5008 0 = nI q → FR MLst S S2 → Q 1 S2)
theorem bar_m {S : St} {n p : Nat} {u T : Nat → Nat} (hX : TXm S n u) (hD : DRm S T) (hp : p ≤ n) (hM : MOD S (tok u n p)) {Q : Int32 → St → Prop} (h : ITM (barP u n T (tok u n p)) u n S Q) : w_X7_readsBar S Q := by
  have z0 : (0 : Int32).toNatClampNeg = 0 := rfl
  have e := tok_ends u n p hp
  have e1 := tok_ends u n (tok u n p).2.2 e.2.2.1
  obtain ⟨⟨hB, hP, hN⟩, hd⟩ := hD
  obtain ⟨hl, hr⟩ := h
  unfold barP at hl hr
  unfold w_X7_readsBar
  refine ⟨vin (i := 0) (by omega), nm_e ?_⟩
  rw [z0]
  refine pk_eqN (T 0) 6 (fun c => ?_) (fun c => ?_) (hd 0 (by omega)) rfl
  · rw [if_neg c] at hl hr
    refine figure_ok hX e.2.2.1 hM.2.2.2 1 4 (by omega) (fun z S2 hM2 hF => ?_) (fun z S2 hM2 hF => ?_)
    · rw [if_pos z] at hl
      exact nb_f rfl (hl _ S2 rfl hM2.2.1 (hF.mono ML4_sub))
    · rw [if_neg z] at hr
      have hv := figN_lt z
      generalize figN u (tok u n (tok u n p).2.2) 1 4 - 1 = v at *
      have d2 : S2.1 52 = S.1 52 := hF.1 52 (by decide)
      refine nb_t (ne9 (by omega)) ⟨vin (i := 0) (by omega), ?_⟩
      rw [d2, hd 0 (by omega), show (4 : Int32) = nI 4 from rfl, nI_add, nI_clamp (by omega)]
      refine ⟨vin (by omega), ?_⟩
      rintro _ rfl
      refine ⟨vin (i := 0) (by omega), vin (i := 0) (by omega), ?_⟩
      rintro _ rfl
      refine hr (addbar T v) _ _ rfl e1.2.2.1 ⟨⟨?_, ?_, ?_⟩, fun j hj => ?_⟩ hM2.2.2.2 (FR.set (FR.set (hF.mono ML4_sub) (by decide)) (by decide))
      · show T 0 + 1 ≤ 6
        omega
      · rw [addbar_n T v 1 (by omega) (by omega)]
        exact hP
      · rw [addbar_n T v 2 (by omega) (by omega)]
        exact hN
      · show upd (upd (S.1 52) (4 + T 0) (nI v)) 0 (upd (S.1 52) (4 + T 0) (nI v) 0 + 1) j = nI (addbar T v j)
        unfold addbar
        by_cases c0 : j = 0
        · rw [if_pos c0, c0, pk_us, pk_un (by omega), hd 0 (by omega), nI_1]
        · rw [if_neg c0, pk_un c0]
          by_cases c1 : j = 4 + T 0
          · rw [if_pos c1, c1, pk_us]
          · rw [if_neg c1, pk_un c1]
            exact hd j hj
  · rw [if_pos c] at hl
    exact nb_f rfl (hl _ S rfl hM.2.1 FR.rf)
theorem person_m {S : St} {n p : Nat} {u T : Nat → Nat} (hX : TXm S n u) (hD : DRm S T) (hp : p ≤ n) (hM : MOD S (tok u n p)) {Q : Int32 → St → Prop} (h : ITM (personP u n T (tok u n p)) u n S Q) : w_X7_readsPerson S Q := by
  have z0 : (1 : Int32).toNatClampNeg = 1 := rfl
  have e := tok_ends u n p hp
  have e1 := tok_ends u n (tok u n p).2.2 e.2.2.1
  obtain ⟨⟨hB, hP, hN⟩, hd⟩ := hD
  obtain ⟨hl, hr⟩ := h
  unfold personP at hl hr
  unfold w_X7_readsPerson
  refine ⟨vin (i := 1) (by omega), nm_e ?_⟩
  rw [z0]
  refine pk_eqN (T 1) 3 (fun c => ?_) (fun c => ?_) (hd 1 (by omega)) rfl
  · rw [if_neg c] at hl hr
    refine figure_ok hX e.2.2.1 hM.2.2.2 1 10 (by omega) (fun z S2 hM2 hF => ?_) (fun z S2 hM2 hF => ?_)
    · rw [if_pos z] at hl
      exact nb_f rfl (hl _ S2 rfl hM2.2.1 (hF.mono ML4_sub))
    · rw [if_neg z] at hr
      have hv := figN_lt z
      generalize figN u (tok u n (tok u n p).2.2) 1 10 - 1 = v at *
      have d2 : S2.1 52 = S.1 52 := hF.1 52 (by decide)
      refine nb_t (ne9 (by omega)) ⟨vin (i := 1) (by omega), ?_⟩
      rw [d2, hd 1 (by omega), show (10 : Int32) = nI 10 from rfl, nI_add, nI_clamp (by omega)]
      refine ⟨vin (by omega), ?_⟩
      rintro _ rfl
      refine ⟨vin (i := 1) (by omega), vin (i := 1) (by omega), ?_⟩
      rintro _ rfl
      refine hr (addperson T v) _ _ rfl e1.2.2.1 ⟨⟨?_, ?_, ?_⟩, fun j hj => ?_⟩ hM2.2.2.2 (FR.set (FR.set (hF.mono ML4_sub) (by decide)) (by decide))
      · rw [addperson_n T v 0 (by omega) (by omega)]
        exact hB
      · show T 1 + 1 ≤ 3
        omega
      · rw [addperson_n T v 2 (by omega) (by omega)]
        exact hN
      · show upd (upd (S.1 52) (10 + T 1) (nI v)) 1 (upd (S.1 52) (10 + T 1) (nI v) 1 + 1) j = nI (addperson T v j)
        unfold addperson
        by_cases c0 : j = 1
        · rw [if_pos c0, c0, pk_us, pk_un (by omega), hd 1 (by omega), nI_1]
        · rw [if_neg c0, pk_un c0]
          by_cases c1 : j = 10 + T 1
          · rw [if_pos c1, c1, pk_us]
          · rw [if_neg c1, pk_un c1]
            exact hd j hj
  · rw [if_pos c] at hl
    exact nb_f rfl (hl _ S rfl hM.2.1 FR.rf)
theorem rain_m {S : St} {n p : Nat} {u T : Nat → Nat} (hX : TXm S n u) (hD : DRm S T) (hp : p ≤ n) (hM : MOD S (tok u n p)) {Q : Int32 → St → Prop} (h : ITM (rainP u n T (tok u n p)) u n S Q) : w_X7_readsRain S Q := by
  have e := tok_ends u n p hp
  have e1 := tok_ends u n (tok u n p).2.2 e.2.2.1
  have e2 := tok_ends u n _ e1.2.2.1
  obtain ⟨⟨hB, hP, hN⟩, hd⟩ := hD
  obtain ⟨hl, hr⟩ := h
  unfold rainP at hl hr
  unfold w_X7_readsRain
  refine figure_ok hX e.2.2.1 hM.2.2.2 0 10 (by omega) (fun z S2 hM2 hF => nm_e (nb_f rfl (nb_f rfl ?_))) (fun z S2 hM2 hF => nm_e (nb_t (ne9 (by have := figN_lt z; omega)) ?_))
  · rw [if_pos z] at hl
    exact hl _ S2 rfl hM2.2.1 (hF.mono ML4_sub)
  · rw [if_neg z] at hl hr
    have hy := figN_lt z
    unfold rainQ at hl hr
    refine figure_ok (hX.fr hF) e1.2.2.1 hM2.2.2.2 0 4 (by omega) (fun z S3 hM3 hF3 => nb_f rfl ?_) (fun z S3 hM3 hF3 => nb_t (ne9 (by have := figN_lt z; omega)) ?_)
    · rw [if_pos z] at hl
      exact hl _ S3 rfl hM3.2.1 ((hF.tr hF3).mono ML4_sub)
    · rw [if_neg z] at hr
      have hv := figN_lt z
      have hF13 := hF.tr hF3
      generalize figN u (tok u n (tok u n p).2.2) 0 10 - 1 = y at *
      generalize figN u (tok u n (tok u n (tok u n p).2.2).2.2) 0 4 - 1 = v at *
      have d2 : S3.1 52 = S.1 52 := hF13.1 52 (by decide)
      rw [show (13 : Int32) = nI 13 from rfl, nI_add, nI_clamp (by omega)]
      refine ⟨vin (by omega), ?_⟩
      rintro _ rfl
      refine hr (raining T y v) _ _ rfl e2.2.2.1 ⟨⟨?_, ?_, ?_⟩, fun j hj => ?_⟩ hM3.2.2.2 (FR.set (hF13.mono ML4_sub) (by decide))
      · rw [raining_n T y v 0 (by omega)]
        exact hB
      · rw [raining_n T y v 1 (by omega)]
        exact hP
      · rw [raining_n T y v 2 (by omega)]
        exact hN
      · show upd (S3.1 52) (13 + y) (nI v) j = nI (raining T y v j)
        rw [d2]
        unfold raining
        by_cases c1 : j = 13 + y
        · rw [if_pos c1, c1, pk_us]
        · rw [if_neg c1, pk_un c1]
          exact hd j hj
theorem paint_m {S : St} {n p : Nat} {u T : Nat → Nat} (hX : TXm S n u) (hD : DRm S T) (hp : p ≤ n) (hM : MOD S (tok u n p)) {Q : Int32 → St → Prop} (h : ITM (paintP u n T (tok u n p)) u n S Q) : w_X7_readsPaint S Q := by
  have z0 : (0 : Int32).toNatClampNeg = 0 := rfl
  have z2 : (2 : Int32).toNatClampNeg = 2 := rfl
  have e := tok_ends u n p hp
  have e1 := tok_ends u n (tok u n p).2.2 e.2.2.1
  have e2 := tok_ends u n _ e1.2.2.1
  have e3 := tok_ends u n _ e2.2.2.1
  obtain ⟨⟨hB, hP, hN⟩, hd⟩ := hD
  obtain ⟨hl, hr⟩ := h
  unfold paintP at hl hr
  unfold w_X7_readsPaint
  refine ⟨vin (i := 2) (by omega), ?_⟩
  rintro _ rfl
  refine nm_e ?_
  rw [z0, z2, hd 2 (by omega), hd 0 (by omega)]
  refine pk_eqN (T 2) 8 (fun c => ⟨vin (i := 0) (by omega), ?_⟩) (fun c => nm_e (nb_f rfl (nm_e (nb_f rfl (nb_f rfl ?_)))))
  · rw [if_neg c] at hl hr
    refine figure_ok hX e.2.2.1 hM.2.2.2 0 (T 0) (by omega) (fun z S2 hM2 hF => nm_e (nb_f rfl (nm_e (nb_f rfl (nb_f rfl ?_))))) (fun z S2 hM2 hF => nm_e (nb_t (ne9 (by have := figN_lt z; omega)) ?_)) rfl rfl
    · rw [if_pos z] at hl
      exact hl _ S2 rfl hM2.2.1 (hF.mono ML4_sub)
    · rw [if_neg z] at hl hr
      have hb := figN_lt z
      unfold paintQ at hl hr
      refine figure_ok (hX.fr hF) e1.2.2.1 hM2.2.2.2 0 10 (by omega) (fun z S3 hM3 hF3 => nm_e (nb_f rfl (nb_f rfl ?_))) (fun z S3 hM3 hF3 => nm_e (nb_t (ne9 (by have := figN_lt z; omega)) ?_))
      · rw [if_pos z] at hl
        exact hl _ S3 rfl hM3.2.1 ((hF.tr hF3).mono ML4_sub)
      · rw [if_neg z] at hl hr
        have hy := figN_lt z
        unfold paintR at hl hr
        have hF13 := hF.tr hF3
        refine figure_ok (hX.fr hF13) e2.2.2.1 hM3.2.2.2 1 6 (by omega) (fun z S4 hM4 hF4 => nb_f rfl ?_) (fun z S4 hM4 hF4 => nb_t (ne9 (by have := figN_lt z; omega)) ?_)
        · rw [if_pos z] at hl
          exact hl _ S4 rfl hM4.2.1 ((hF13.tr hF4).mono ML4_sub)
        · rw [if_neg z] at hr
          have hv := figN_lt z
          have hF14 := hF13.tr hF4
          generalize figN u (tok u n (tok u n p).2.2) 0 (T 0) - 1 = b at *
          generalize figN u (tok u n (tok u n (tok u n p).2.2).2.2) 0 10 - 1 = y at *
          generalize figN u (tok u n (tok u n (tok u n (tok u n p).2.2).2.2).2.2) 1 6 - 1 = v at *
          have d2 : S4.1 52 = S.1 52 := hF14.1 52 (by decide)
          rw [show (23 : Int32) = nI 23 from rfl, show (31 : Int32) = nI 31 from rfl, show (39 : Int32) = nI 39 from rfl, nI_add, nI_add, nI_add, nI_clamp (by omega), nI_clamp (by omega), nI_clamp (by omega)]
          refine ⟨vin (by omega), ?_⟩
          rintro _ rfl
          refine ⟨vin (by omega), ?_⟩
          rintro _ rfl
          refine ⟨vin (by omega), ?_⟩
          rintro _ rfl
          refine ⟨vin (i := 2) (by omega), vin (i := 2) (by omega), ?_⟩
          rintro _ rfl
          have nn := addpaint_n T b y v
          refine hr (addpaint T b y v) _ _ rfl e3.2.2.1 ⟨⟨?_, ?_, ?_⟩, fun j hj => ?_⟩ hM4.2.2.2 (FR.set (FR.set (FR.set (FR.set (hF14.mono ML4_sub) (by decide)) (by decide)) (by decide)) (by decide))
          · rw [nn 0 (by omega) (by omega) (by omega) (by omega)]
            exact hB
          · rw [nn 1 (by omega) (by omega) (by omega) (by omega)]
            exact hP
          · show T 2 + 1 ≤ 8
            omega
          · show upd (upd (upd (upd (S4.1 52) (23 + T 2) (nI b)) (31 + T 2) (nI y)) (39 + T 2) (nI v)) 2 (upd (upd (upd (S4.1 52) (23 + T 2) (nI b)) (31 + T 2) (nI y)) (39 + T 2) (nI v) 2 + 1) j = nI (addpaint T b y v j)
            rw [d2]
            unfold addpaint
            by_cases c0 : j = 2
            · rw [if_pos c0, c0, pk_us, pk_un (by omega), pk_un (by omega), pk_un (by omega), hd 2 (by omega), nI_1]
            · rw [if_neg c0, pk_un c0]
              by_cases c1 : j = 39 + T 2
              · rw [if_pos c1, c1, pk_us]
              · rw [if_neg c1, pk_un c1]
                by_cases c2 : j = 31 + T 2
                · rw [if_pos c2, c2, pk_us]
                · rw [if_neg c2, pk_un c2]
                  by_cases c3 : j = 23 + T 2
                  · rw [if_pos c3, c3, pk_us]
                  · rw [if_neg c3, pk_un c3]
                    exact hd j hj
  · rw [if_pos c] at hl
    exact hl _ S rfl hM.2.1 FR.rf
theorem item_m {S : St} {n p : Nat} {u T : Nat → Nat} (hX : TXm S n u) (hD : DRm S T) (hp : p ≤ n) (hM : MOD S (tok u n p)) {Q : Int32 → St → Prop} (h : ITM (itemP u n T (tok u n p)) u n S Q) : w_X7_readsItem S (if isW u (tok u n p) 0 then 0 else if isW u (tok u n p) 1 then 1 else if isW u (tok u n p) 2 then 2 else if isW u (tok u n p) 3 then 3 else -9) Q := by
  unfold itemP at h
  unfold w_X7_readsItem
  by_cases a : isW u (tok u n p) 0
  · rw [if_pos a] at h ⊢
    exact nb_f rfl (bar_m hX hD hp hM ⟨fun x S2 q w f => ⟨zok0, h.1 x S2 q w f⟩, fun T' q S2 a b c d f => ⟨zok1, h.2 T' q S2 a b c d f⟩⟩)
  · rw [if_neg a] at h ⊢
    by_cases a : isW u (tok u n p) 1
    · rw [if_pos a] at h ⊢
      exact nb_t (by decide) (nb_f rfl (person_m hX hD hp hM ⟨fun x S2 q w f => ⟨zok0, h.1 x S2 q w f⟩, fun T' q S2 a b c d f => ⟨zok1, h.2 T' q S2 a b c d f⟩⟩))
    · rw [if_neg a] at h ⊢
      by_cases a : isW u (tok u n p) 2
      · rw [if_pos a] at h ⊢
        exact nb_t (by decide) (nb_t (by decide) (nb_f rfl (rain_m hX hD hp hM ⟨fun x S2 q w f => ⟨zok0, h.1 x S2 q w f⟩, fun T' q S2 a b c d f => ⟨zok1, h.2 T' q S2 a b c d f⟩⟩)))
      · rw [if_neg a] at h ⊢
        by_cases a : isW u (tok u n p) 3
        · rw [if_pos a] at h ⊢
          exact nb_t (by decide) (nb_t (by decide) (nb_t (by decide) (nb_f rfl (paint_m hX hD hp hM ⟨fun x S2 q w f => br_t rfl (h.1 x S2 q w f), fun T' q S2 a b c d f => br_f (by decide) (h.2 T' q S2 a b c d f)⟩))))
        · rw [if_neg a] at h ⊢
          exact nb_t (by decide) (nb_t (by decide) (nb_t (by decide) (nb_t (by decide) (h.1 _ S rfl hM.2.1 FR.rf))))
theorem reads_loop {n : Nat} {u : Nat → Nat} {Q : Int32 → St → Prop} {kx : St → Prop} : ∀ (f p : Nat) (T : Nat → Nat) (S : St), TXm S n u → DRm S T → p ≤ n → n ≤ p + f → MOD S (tok u n p) →
    (∀ x S2, parse u n (f + 1) T (tok u n p) = .inl x → S2.1 5010 0 = nI x → FR MLst S S2 → Q 0 S2) → (∀ T' S2, parse u n (f + 1) T (tok u n p) = .inr T' → DRm S2 T' → FR MLst S S2 → kx S2) → X7_reads_L45 Q kx (f + 1) S := by
  intro f
  induction f with
  | zero =>
    intro p T S hX hD hp hf hM hl hr
    obtain rfl : p = n := by omega
    have hk := tok_n u p
    rw [parse, if_pos hk] at hr
    rw [X7_reads_L45]
    refine br_t ?_ (hr T S rfl hD FR.rf)
    rw [hM.1, hk]
    rfl
  | succ f ih =>
    intro p T S hX hD hp hf hM hl hr
    have hn := hX.1
    have e := tok_ends u n p hp
    have hkk := tok_kind u n p
    rw [parse] at hl hr
    rw [X7_reads_L45]
    by_cases hk : (tok u n p).2.1 = 0
    · rw [if_pos hk] at hr
      refine br_t ?_ (hr T S rfl hD FR.rf)
      rw [hM.1, hk]
      rfl
    · rw [if_neg hk] at hl hr
      have hlt := e.2.2.2 hk
      refine br_f ?_ (verb_ok hX hp hM hk (item_m hX hD hp hM ⟨fun x S2 q w fr => nb_f rfl ?_, fun T' q S2 a b c d fr => nb_t (by decide) ?_⟩))
      · rw [hM.1]
        intro q
        exact hk (nI_inj (b := 0) (by omega) (by omega) q)
      · rw [q] at hl
        exact hl x S2 rfl w fr
      · have e1 := tok_ends u n q b
        have hkk1 := tok_kind u n q
        have hin := @itemP_inr u n (tok u n q).2.2 T T' (tok u n p) e.2.2.1
        rw [a] at hl hr hin
        unfold stopP at hl hr hin
        refine token_ok (hX.fr fr) b d (fun S3 hM3 hF3 => ?_)
        have fr3 := fr.tr (hF3.mono ML4_sub)
        refine pk_eq (tok u n q).2.1 3 (fun k3 => ?_) (fun k3 => ?_) hM3.1 rfl
        · rw [if_pos k3] at hl hr hin
          obtain ⟨q1, q2, q3⟩ := hin rfl
          refine ⟨vin (i := 3) (by omega), vin (i := 3) (by omega), ?_⟩
          rintro _ rfl
          have hF4 : FR MLst S3 (setA S3 52 (upd (S3.1 52) (3 : Int32).toNatClampNeg (S3.1 52 (3 : Int32).toNatClampNeg + 1))) := FR.set FR.rf (by decide)
          have fr4 := fr3.tr hF4
          refine token_ok (hX.fr fr4) e1.2.2.1 hM3.2.2.2 (fun S5 hM5 hF5 => ?_)
          have fr5 := fr4.tr (hF5.mono ML4_sub)
          have d3 : S3.1 52 = S2.1 52 := hF3.1 52 (by decide)
          have d5 : S5.1 52 = upd (S3.1 52) 3 (S3.1 52 3 + 1) := hF5.1 52 (by decide)
          refine ih (tok u n q).2.2 (bump T') S5 (hX.fr fr5) ⟨⟨?_, ?_, ?_⟩, fun j hj => ?_⟩ q2 (by omega) hM5 (fun x S6 g1 g2 g3 => hl x S6 g1 g2 (fr5.tr g3)) (fun T2 S6 g1 g2 g3 => hr T2 S6 g1 g2 (fr5.tr g3))
          · exact c.1.1
          · exact c.1.2.1
          · exact c.1.2.2
          · rw [d5, d3]
            unfold bump
            by_cases c0 : j = 3
            · rw [if_pos c0, c0, pk_us, c.2 3 (by omega), nI_1]
            · rw [if_neg c0, pk_un c0]
              exact c.2 j hj
        · rw [if_neg k3] at hl
          exact hl _ S3 rfl hM3.2.1 fr3
