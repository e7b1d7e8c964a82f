/-! BARS and PEOPLE that were told, paint, rust: both sides say the same numbers. -/
theorem hasBar_in {S : St} {B j : Nat} {Q : Int32 → Prop} (hB : S.1 1200 0 = nI B) (hB6 : B ≤ 6) (hj : j < B) (h : Q 1) : w_X2_hasBar S (nI j) Q := by
  rw [w_X2_hasBar, hB, nI_m1 B (by omega)]
  exact within_in 0 (B - 1) j (by omega) (by omega) ⟨zok1, h⟩
theorem hasBar_out {S : St} {x : Int32} {Q : Int32 → Prop} (hx : x < 0 ∨ S.1 1200 0 - 1 < x) (h : Q 0) : w_X2_hasBar S x Q := by
  rw [w_X2_hasBar]
  exact within_out hx ⟨zok0, h⟩
theorem isBar_in {S : St} {B j : Nat} {Q : Int32 → Prop} (hB : S.1 51 0 = nI B) (hB6 : B ≤ 6) (hj : j < B) (h : Q 1) : w_X7_isBar S (nI j) Q := by
  rw [w_X7_isBar]
  refine ⟨vin (i := 0) (by omega), ?_⟩
  rw [show (0 : Int32).toNatClampNeg = 0 from rfl, hB, nI_m1 B (by omega)]
  exact in_in 0 (B - 1) j (by omega) (by omega) ⟨zok1, h⟩
theorem isBar_out {S : St} {x : Int32} {Q : Int32 → Prop} (hx : x < 0 ∨ S.1 51 0 - 1 < x) (h : Q 0) : w_X7_isBar S x Q := by
  rw [w_X7_isBar]
  refine ⟨vin (i := 0) (by omega), ?_⟩
  exact in_out hx ⟨zok0, h⟩
theorem hasPerson_in {S : St} {B j : Nat} {Q : Int32 → Prop} (hB : S.1 1201 0 = nI B) (hB6 : B ≤ 3) (hj : j < B) (h : Q 1) : w_X2_hasPerson S (nI j) Q := by
  rw [w_X2_hasPerson, hB, nI_m1 B (by omega)]
  exact within_in 0 (B - 1) j (by omega) (by omega) ⟨zok1, h⟩
theorem hasPerson_out {S : St} {x : Int32} {Q : Int32 → Prop} (hx : x < 0 ∨ S.1 1201 0 - 1 < x) (h : Q 0) : w_X2_hasPerson S x Q := by
  rw [w_X2_hasPerson]
  exact within_out hx ⟨zok0, h⟩
theorem isPerson_in {S : St} {B j : Nat} {Q : Int32 → Prop} (hB : S.1 51 1 = nI B) (hB6 : B ≤ 3) (hj : j < B) (h : Q 1) : w_X7_isPerson S (nI j) Q := by
  rw [w_X7_isPerson]
  refine ⟨vin (i := 1) (by omega), ?_⟩
  rw [show (1 : Int32).toNatClampNeg = 1 from rfl, hB, nI_m1 B (by omega)]
  exact in_in 0 (B - 1) j (by omega) (by omega) ⟨zok1, h⟩
theorem isPerson_out {S : St} {x : Int32} {Q : Int32 → Prop} (hx : x < 0 ∨ S.1 51 1 - 1 < x) (h : Q 0) : w_X7_isPerson S x Q := by
  rw [w_X7_isPerson]
  refine ⟨vin (i := 1) (by omega), ?_⟩
  exact in_out hx ⟨zok0, h⟩
/-- a bar's number: one that was told, or both sides say no -/
theorem bar_cases {S : St} {T : Nat → Nat} (hR : RAIL S T) (x : Int32) : (∃ j, j < T 0 ∧ x = nI j) ∨ ((x < 0 ∨ S.1 1200 0 - 1 < x) ∧ (x < 0 ∨ S.1 51 0 - 1 < x)) := by
  obtain ⟨⟨hB, -, -⟩, ⟨e0, -, -⟩, ht, -⟩ := hR
  have e1 := ht 0 (by omega)
  by_cases h0 : T 0 = 0
  · refine Or.inr ?_
    rw [e0, e1, h0]
    by_cases hx : x < 0
    · exact ⟨Or.inl hx, Or.inl hx⟩
    · have : nI 0 - 1 < x := by
        obtain ⟨j, hj, rfl⟩ := nI_of hx
        rw [Int32.lt_iff_toInt_lt, nI_toInt hj]
        have : (nI 0 - 1).toInt = -1 := by decide
        omega
      exact ⟨Or.inr this, Or.inr this⟩
  · rcases rng_cases x 0 (T 0 - 1) (by omega) (by omega) with ⟨j, -, hj, rfl⟩ | h
    · exact Or.inl ⟨j, by omega, rfl⟩
    · refine Or.inr ?_
      rw [e0, e1, nI_m1 _ (by omega)]
      exact ⟨h, h⟩
theorem person_cases {S : St} {T : Nat → Nat} (hR : RAIL S T) (x : Int32) : (∃ j, j < T 1 ∧ x = nI j) ∨ ((x < 0 ∨ S.1 1201 0 - 1 < x) ∧ (x < 0 ∨ S.1 51 1 - 1 < x)) := by
  obtain ⟨⟨-, hB, -⟩, ⟨-, e0, -⟩, ht, -⟩ := hR
  have e1 := ht 1 (by omega)
  by_cases h0 : T 1 = 0
  · refine Or.inr ?_
    rw [e0, e1, h0]
    by_cases hx : x < 0
    · exact ⟨Or.inl hx, Or.inl hx⟩
    · have : nI 0 - 1 < x := by
        obtain ⟨j, hj, rfl⟩ := nI_of hx
        rw [Int32.lt_iff_toInt_lt, nI_toInt hj]
        have : (nI 0 - 1).toInt = -1 := by decide
        omega
      exact ⟨Or.inr this, Or.inr this⟩
  · rcases rng_cases x 0 (T 1 - 1) (by omega) (by omega) with ⟨j, -, hj, rfl⟩ | h
    · exact Or.inl ⟨j, by omega, rfl⟩
    · refine Or.inr ?_
      rw [e0, e1, nI_m1 _ (by omega)]
      exact ⟨h, h⟩
theorem ok_bar {S : St} {T : Nat → Nat} (hR : RAIL S T) (x : Int32) : w_X6_bar S x (fun r => w_X7_bar S x (fun r2 => r = r2)) := by
  have hR' := hR
  obtain ⟨⟨hB, -, -⟩, ⟨e0, -, -⟩, ht, hm, -⟩ := hR'
  unfold w_X6_bar w_X7_bar
  rcases bar_cases hR x with ⟨j, hj, rfl⟩ | ⟨h1, h2⟩
  · refine hasBar_in e0 hB hj (br_f (by decide) ⟨vin (by omega), ?_⟩)
    refine isBar_in (ht 0 (by omega)) hB hj (br_f (by decide) ?_)
    have e4 : (4 : Int32) + nI j = nI (4 + j) := nI_add 4 j
    rw [e4]
    refine ⟨vin (by omega), ?_⟩
    rw [nI_clamp (by omega), nI_clamp (by omega), (hm j hj).1, ht _ (by omega)]
  · exact hasBar_out h1 (br_t rfl (isBar_out h2 (br_t rfl rfl)))
theorem ok_person {S : St} {T : Nat → Nat} (hR : RAIL S T) (x : Int32) : w_X6_person S x (fun r => w_X7_person S x (fun r2 => r = r2)) := by
  have hR' := hR
  obtain ⟨⟨-, hB, -⟩, ⟨-, e0, -⟩, ht, -, hm, -⟩ := hR'
  unfold w_X6_person w_X7_person
  rcases person_cases hR x with ⟨j, hj, rfl⟩ | ⟨h1, h2⟩
  · refine hasPerson_in e0 hB hj (br_f (by decide) ⟨vin (by omega), ?_⟩)
    refine isPerson_in (ht 1 (by omega)) hB hj (br_f (by decide) ?_)
    have e4 : (10 : Int32) + nI j = nI (10 + j) := nI_add 10 j
    rw [e4]
    refine ⟨vin (by omega), ?_⟩
    rw [nI_clamp (by omega), nI_clamp (by omega), (hm j hj).1, ht _ (by omega)]
  · exact hasPerson_out h1 (br_t rfl (isPerson_out h2 (br_t rfl rfl)))
theorem year_cases (x : Int32) : (∃ j, j < 10 ∧ x = nI j) ∨ (x < 0 ∨ 9 < x) := by
  rcases rng_cases x 0 9 (by omega) (by omega) with ⟨j, -, hj, rfl⟩ | h
  · exact Or.inl ⟨j, by omega, rfl⟩
  · exact Or.inr h
theorem isYear_in {j : Nat} {Q : Int32 → Prop} (hj : j < 10) (h : Q 1) : w_X6_isYear (nI j) Q := by
  rw [w_X6_isYear]
  exact within_in 0 9 j (by omega) (by omega) ⟨zok1, h⟩
theorem isYear_out {x : Int32} {Q : Int32 → Prop} (hx : x < 0 ∨ 9 < x) (h : Q 0) : w_X6_isYear x Q := by
  rw [w_X6_isYear]
  exact within_out hx ⟨zok0, h⟩
theorem ok_rain {S : St} {T : Nat → Nat} (hR : RAIL S T) (x : Int32) : w_X6_rain S x (fun r => w_X7_rain S x (fun r2 => r = r2)) := by
  have hR' := hR
  obtain ⟨-, -, ht, -, -, hm, -⟩ := hR'
  unfold w_X6_rain w_X7_rain
  rcases year_cases x with ⟨j, hj, rfl⟩ | h1
  · refine isYear_in hj (br_f (by decide) ⟨vin (by omega), ?_⟩)
    refine in_in 0 9 j (by omega) (by omega) (br_f (by decide) ?_)
    have e4 : (13 : Int32) + nI j = nI (13 + j) := nI_add 13 j
    rw [e4]
    refine ⟨vin (by omega), ?_⟩
    rw [nI_clamp (by omega), nI_clamp (by omega), (hm j hj).1, ht _ (by omega)]
  · exact isYear_out h1 (br_t rfl (in_out h1 (br_t rfl rfl)))
/-- paint k wets bar b in year y | covers it -/
def wetk (T : Nat → Nat) (b y k : Nat) : Bool := T (23 + k) == b && T (31 + k) == y
def covk (T : Nat → Nat) (b y k : Nat) : Bool := T (23 + k) == b && (decide (T (31 + k) ≤ y) && decide (y < T (31 + k) + T (39 + k)))
def wet (T : Nat → Nat) (b y : Nat) : Bool := anyB (wetk T b y) (T 2)
def cov (T : Nat → Nat) (b y : Nat) : Bool := anyB (covk T b y) (T 2)
theorem isWet_loop {S : St} {T : Nat → Nat} (hR : RAIL S T) {b y : Nat} (hb : b < 6) (hy : y < 10) {Q : Int32 → Prop} {kx : Prop} (h1 : wet T b y = true → Q 1) (h0 : wet T b y = false → kx) : ∀ (j i : Nat), i + j = T 2 → (∀ k, k < i → wetk T b y k = false) → X2_isWet_L2 S (nI b) (nI y) Q kx (j + 1) (nI i) := by
  obtain ⟨⟨hB, hP, hN⟩, ⟨-, -, eN⟩, -, -, -, -, hp⟩ := hR
  intro j
  induction j with
  | zero =>
    intro i hi hk
    rw [X2_isWet_L2, eN]
    exact pk_le (T 2) i (fun _ => h0 (anyB_f (fun k hk2 => hk k (by omega)))) (fun z => absurd z (by omega))
  | succ j ih =>
    intro i hi hk
    obtain ⟨⟨p1, p2⟩, ⟨p3, p4⟩, -⟩ := hp i (by omega)
    rw [X2_isWet_L2, eN]
    refine pk_le (T 2) i (fun z => absurd z (by omega)) (fun _ => ⟨vin (by omega), ?_⟩)
    rw [nI_clamp (by omega), p1, p3]
    have next : wetk T b y i = false → X2_isWet_L2 S (nI b) (nI y) Q kx (j + 1) (nI i + 1) := by
      intro z
      rw [nI_1]
      refine ih (i + 1) (by omega) (fun k hk2 => ?_)
      by_cases hki : k = i
      · subst hki; exact z
      · exact hk k (by omega)
    refine pk_eqN (T (23 + i)) b (fun c => ?_) (fun c => ⟨vin (by omega), pk_eqN (T (31 + i)) y (fun c2 => ?_) (fun c2 => ?_)⟩)
    · rintro _ rfl
      exact next (by simp [wetk, c])
    · rintro _ rfl
      exact next (by simp [wetk, c2])
    · exact h1 (anyB_t (k := i) (by omega) (by simp [wetk, c, c2]))
theorem isWet_ok {S : St} {T : Nat → Nat} (hR : RAIL S T) {b y : Nat} (hb : b < 6) (hy : y < 10) {Q : Int32 → Prop} (h1 : wet T b y = true → Q 1) (h0 : wet T b y = false → Q 0) : w_X2_isWet S (nI b) (nI y) Q :=
  ⟨T 2 + 1, isWet_loop hR hb hy h1 h0 (T 2) 0 (by omega) (fun k hk => absurd hk (Nat.not_lt_zero k))⟩
theorem isCovered_loop {S : St} {T : Nat → Nat} (hR : RAIL S T) {b y : Nat} (hb : b < 6) (hy : y < 10) {Q : Int32 → Prop} {kx : Prop} (h1 : cov T b y = true → Q 1) (h0 : cov T b y = false → kx) : ∀ (j i : Nat), i + j = T 2 → (∀ k, k < i → covk T b y k = false) → X2_isCovered_L2 S (nI b) (nI y) Q kx (j + 1) (nI i) := by
  obtain ⟨⟨hB, hP, hN⟩, ⟨-, -, eN⟩, -, -, -, -, hp⟩ := hR
  intro j
  induction j with
  | zero =>
    intro i hi hk
    rw [X2_isCovered_L2, eN]
    exact pk_le (T 2) i (fun _ => h0 (anyB_f (fun k hk2 => hk k (by omega)))) (fun z => absurd z (by omega))
  | succ j ih =>
    intro i hi hk
    obtain ⟨⟨p1, p2⟩, ⟨p3, p4⟩, p5, p6, p7⟩ := hp i (by omega)
    rw [X2_isCovered_L2, eN]
    refine pk_le (T 2) i (fun z => absurd z (by omega)) (fun _ => ⟨vin (by omega), vin (by omega), ?_⟩)
    rw [nI_clamp (by omega), p1, p3, p5, nI_add, nI_m1 _ (by omega)]
    rintro _ rfl
    have next : covk T b y i = false → X2_isCovered_L2 S (nI b) (nI y) Q kx (j + 1) (nI i + 1) := by
      intro z
      rw [nI_1]
      refine ih (i + 1) (by omega) (fun k hk2 => ?_)
      by_cases hki : k = i
      · subst hki; exact z
      · exact hk k (by omega)
    refine ⟨vin (by omega), pk_eqN (T (23 + i)) b (fun c => ?_) (fun c => ⟨vin (by omega), ?_⟩)⟩
    · rintro _ rfl
      exact next (by simp [covk, c])
    · by_cases hc : T (31 + i) ≤ y ∧ y < T (31 + i) + T (39 + i)
      · exact within_in (T (31 + i)) (T (31 + i) + T (39 + i) - 1) y (by omega) (by omega) (br_f (by decide) (h1 (anyB_t (k := i) (by omega) (by simp [covk, c, hc]))))
      · refine within_out ?_ (br_t rfl ?_)
        · rw [nI_ltI (by omega) (by omega), nI_ltI (by omega) (by omega)]
          omega
        · rintro _ rfl
          refine next ?_
          have : ¬ (T (31 + i) ≤ y) ∨ ¬ (y < T (31 + i) + T (39 + i)) := by omega
          rcases this with z | z <;> simp [covk, z]
theorem isCovered_ok {S : St} {T : Nat → Nat} (hR : RAIL S T) {b y : Nat} (hb : b < 6) (hy : y < 10) {Q : Int32 → Prop} (h1 : cov T b y = true → Q 1) (h0 : cov T b y = false → Q 0) : w_X2_isCovered S (nI b) (nI y) Q :=
  ⟨T 2 + 1, isCovered_loop hR hb hy h1 h0 (T 2) 0 (by omega) (fun k hk => absurd hk (Nat.not_lt_zero k))⟩
/-- the reference's number of the paint, as far as k paints say -/
def pvn (T : Nat → Nat) (b y k : Nat) : Nat := if anyB (wetk T b y) k = true then 2 else if anyB (covk T b y) k = true then 1 else 0
theorem pvn_succ (T : Nat → Nat) (b y k : Nat) (h : 1 ≤ T (39 + k)) : pvn T b y (k + 1) = if wetk T b y k = true then 2 else if pvn T b y k = 0 ∧ covk T b y k = true then 1 else pvn T b y k := by
  unfold pvn
  rw [anyB, anyB]
  cases anyB (wetk T b y) k <;> cases wetk T b y k <;> cases anyB (covk T b y) k <;> cases covk T b y k <;> simp
theorem paintOf_loop {S : St} {T : Nat → Nat} (hR : RAIL S T) {b y : Nat} (hb : b < 6) (hy : y < 10) {kx : Int32 → Prop} (h : kx (nI (pvn T b y (T 2)))) : ∀ (j i : Nat), i + j = T 2 → X7_paintOf_L5 S (nI b) (nI y) kx (j + 1) (nI (pvn T b y i)) (nI i) := by
  obtain ⟨⟨hB, hP, hN⟩, -, ht, -, -, -, hp⟩ := hR
  have z2 : (2 : Int32).toNatClampNeg = 2 := rfl
  intro j
  induction j with
  | zero =>
    intro i hi
    obtain rfl : i = T 2 := by omega
    rw [X7_paintOf_L5, z2, ht 2 (by omega)]
    exact ⟨vin (i := 2) (by omega), pk_le (T 2) (T 2) (fun _ => h) (fun z => absurd z (by omega))⟩
  | succ j ih =>
    intro i hi
    obtain ⟨⟨p1, p2⟩, ⟨p3, p4⟩, p5, p6, p7⟩ := hp i (by omega)
    rw [X7_paintOf_L5, z2, ht 2 (by omega)]
    refine ⟨vin (i := 2) (by omega), pk_le (T 2) i (fun z => absurd z (by omega)) (fun _ => ?_)⟩
    have e23 : (23 : Int32) + nI i = nI (23 + i) := nI_add 23 i
    have e31 : (31 : Int32) + nI i = nI (31 + i) := nI_add 31 i
    have e39 : (39 : Int32) + nI i = nI (39 + i) := nI_add 39 i
    rw [e23, e31, e39, nI_clamp (by omega), nI_clamp (by omega), nI_clamp (by omega), ht _ (by omega), ht _ (by omega), ht _ (by omega)]
    have hs := pvn_succ T b y i p6
    have ihn : ∀ v : Nat, v = pvn T b y (i + 1) → X7_paintOf_L5 S (nI b) (nI y) kx (j + 1) (nI v) (nI i + 1) := by
      intro v hv
      rw [nI_1, hv]
      exact ih (i + 1) (by omega)
    have h2 : pvn T b y i ≤ 2 := by unfold pvn; split <;> (try split) <;> omega
    refine ⟨vin (by omega), nm_e ?_⟩
    refine pk_eqN (T (23 + i)) b (fun c => ?_) (fun c => ⟨vin (by omega), ?_⟩)
    · have w0 : wetk T b y i = false := by simp [wetk, c]
      have c0 : covk T b y i = false := by simp [covk, c]
      rw [w0, c0] at hs
      simp only [Bool.false_eq_true, and_false, if_false] at hs
      refine nb_t (by decide) (pk_eqN (pvn T b y i) 0 (fun _ => ?_) (fun _ => ?_))
      · rintro _ rfl
        exact ihn _ hs.symm
      · refine br_t (by decide) ?_
        rintro _ rfl
        exact ihn _ hs.symm
    · by_cases q : T (31 + i) = y
      · have w1 : wetk T b y i = true := by simp [wetk, c, q]
        rw [w1] at hs
        simp only [if_true] at hs
        refine nb_f (by rw [q, pk_sub (Nat.le_refl _), Nat.sub_self]; rfl) ?_
        rintro _ rfl
        exact ihn 2 hs.symm
      · have w0 : wetk T b y i = false := by simp [wetk, q]
        rw [w0] at hs
        simp only [Bool.false_eq_true, if_false] at hs
        by_cases q2 : T (31 + i) < y
        · rw [pk_sub (by omega)]
          refine nb_t (by rw [show (0 : Int32) = nI 0 from rfl, nI_eq (by omega) (by omega)]; omega) ?_
          refine pk_eqN (pvn T b y i) 0 (fun v0 => ?_) (fun v0 => ?_)
          · rintro _ rfl
            refine ihn _ ?_
            rw [hs, if_neg (fun z => v0 z.1)]
          · refine pk_le (y - T (31 + i)) 0 (fun z => absurd z (by omega)) (fun _ => ⟨vin (by omega), ?_⟩)
            refine pk_le (T (39 + i)) (y - T (31 + i)) (fun l => ?_) (fun l => ?_)
            · rintro _ rfl
              refine ihn _ ?_
              have c0 : covk T b y i = false := by
                have : ¬ (y < T (31 + i) + T (39 + i)) := by omega
                simp [covk, this]
              rw [hs, c0]
              simp
            · rintro _ rfl
              refine ihn 1 ?_
              have c1 : covk T b y i = true := by
                have h3 : T (31 + i) ≤ y := by omega
                have h4 : y < T (31 + i) + T (39 + i) := by omega
                simp [covk, c, h3, h4]
              rw [hs, c1]
              simp [v0]
        · have c0 : covk T b y i = false := by
            have : ¬ (T (31 + i) ≤ y) := by omega
            simp [covk, this]
          rw [c0] at hs
          simp only [Bool.false_eq_true, and_false, if_false] at hs
          have hn : nI y - nI (T (31 + i)) < 0 := pk_sneg (by omega) (by omega)
          have hn0 : ¬ nI y - nI (T (31 + i)) = 0 := fun z => by rw [z] at hn; exact absurd hn (by decide)
          refine nb_t hn0 (pk_eqN (pvn T b y i) 0 (fun _ => ?_) (fun _ => ?_))
          · rintro _ rfl
            exact ihn _ hs.symm
          · refine br_t (Int32.le_of_lt hn) ?_
            rintro _ rfl
            exact ihn _ hs.symm
def pv (T : Nat → Nat) (b y : Nat) : Nat := pvn T b y (T 2)
theorem paintOf_ok {S : St} {T : Nat → Nat} (hR : RAIL S T) {b y : Nat} (hb : b < 6) (hy : y < 10) {Q : Int32 → Prop} (h : Q (nI (pv T b y))) : w_X7_paintOf S (nI b) (nI y) Q := by
  refine ⟨T 2 + 1, ?_⟩
  have h0 := paintOf_loop hR hb hy (kx := fun v => Q v) h (T 2) 0 (by omega)
  exact h0
theorem pv_eq (T : Nat → Nat) (b y : Nat) : pv T b y = if wet T b y = true then 2 else if cov T b y = true then 1 else 0 := rfl
theorem wet_cov {S : St} {T : Nat → Nat} (hR : RAIL S T) {b y : Nat} (h : wet T b y = true) : cov T b y = true := by
  obtain ⟨-, -, -, -, -, -, hp⟩ := hR
  obtain ⟨k, hk, e⟩ := anyB_ex h
  obtain ⟨-, -, -, p6, -⟩ := hp k hk
  simp only [wetk, Bool.and_eq_true, beq_iff_eq] at e
  refine anyB_t hk ?_
  have h3 : T (31 + k) ≤ y := by omega
  have h4 : y < T (31 + k) + T (39 + k) := by omega
  simp [covk, e.1, h3, h4]
theorem ok_paint {S : St} {T : Nat → Nat} (hR : RAIL S T) (x y : Int32) : w_X6_paint S x y (fun r => w_X7_paint S x y (fun r2 => r = r2)) := by
  have hR' := hR
  obtain ⟨⟨hB, -, -⟩, ⟨e0, -, -⟩, ht, -⟩ := hR'
  unfold w_X6_paint w_X7_paint
  rcases bar_cases hR x with ⟨j, hj, rfl⟩ | ⟨h1, h2⟩
  · refine hasBar_in e0 hB hj (br_f (by decide) ?_)
    rcases year_cases y with ⟨i, hi, rfl⟩ | h1
    · have last : ∀ v : Int32, v = nI (pv T j i) → w_X7_isBar S (nI j) (fun r1 => ((r1 = 0 → v = (-1 : Int32)) ∧ (¬ r1 = 0 → (w_X7_in (nI i) (0 : Int32) (9 : Int32) (fun r2 => ((r2 = 0 → v = (-1 : Int32)) ∧ (¬ r2 = 0 → (w_X7_paintOf S (nI j) (nI i) (fun r3 => v = r3))))))))) := by
        intro v hv
        refine isBar_in (ht 0 (by omega)) hB hj (br_f (by decide) ?_)
        refine in_in 0 9 i (by omega) (by omega) (br_f (by decide) ?_)
        exact paintOf_ok hR (by omega) hi hv
      refine isYear_in hi (nb_t (by decide) ?_)
      refine isWet_ok hR (by omega) hi (fun z => br_f (by decide) (last 2 ?_)) (fun z => br_t rfl (isCovered_ok hR (by omega) hi (fun z2 => br_f (by decide) (last 1 ?_)) (fun z2 => br_t rfl (last 0 ?_))))
      · rw [pv_eq, if_pos z]; rfl
      · rw [pv_eq, if_neg (by rw [z]; decide), if_pos z2]; rfl
      · rw [pv_eq, if_neg (by rw [z]; decide), if_neg (by rw [z2]; decide)]; rfl
    · exact isYear_out h1 (nb_f rfl (isBar_in (ht 0 (by omega)) hB hj (br_f (by decide) (in_out h1 (br_t rfl rfl)))))
  · exact hasBar_out h1 (br_t rfl (isBar_out h2 (br_t rfl rfl)))
