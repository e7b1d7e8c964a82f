/-! rust: what the years add, what the holds add. -/
theorem vin' {x : Int32} {N : Nat} (i : Nat) (h : i < N) (hx : x = nI i) (hN : N < 2 ^ 31 := by omega) : vp_in x N := by
  subst hx
  exact vp_in_nI h hN
def dry1 (T : Nat → Nat) (b y : Nat) : Nat := if wet T b y = true then 0 else 1
def plainN (T : Nat → Nat) (b n : Nat) : Nat := sm (fun k => if cov T b k = true then 0 else T (13 + k) * T (4 + b)) n
theorem weather_loop {S : St} {T : Nat → Nat} (hR : RAIL S T) {b y : Nat} (hb : b < T 0) (hy : y < 10) {kx : Int32 → Prop} (h : kx (nI (plainN T b (y + 1)))) : ∀ (j i : Nat), i + j = y + 1 → X2_weather_L5 S (nI b) (nI y) kx (j + 1) (nI (plainN T b i)) (nI i) := by
  have hR' := hR
  obtain ⟨⟨hB, hP, hN⟩, -, -, hm, -, hr, -⟩ := hR'
  intro j
  induction j with
  | zero =>
    intro i hi
    obtain rfl : i = y + 1 := by omega
    rw [X2_weather_L5]
    exact pk_lt y (y + 1) (fun _ => h) (fun z => absurd z (by omega))
  | succ j ih =>
    intro i hi
    have e : plainN T b (i + 1) = plainN T b i + if cov T b i = true then 0 else T (13 + i) * T (4 + b) := rfl
    rw [X2_weather_L5]
    refine pk_lt y i (fun z => absurd z (by omega)) (fun _ => pk_le 10 i (fun z => absurd z (by omega)) (fun _ => ?_))
    refine isCovered_ok hR (by omega) (by omega) (fun c => nb_t (by decide) ?_) (fun c => nb_f rfl ⟨vin (by omega), vin (by omega), ?_⟩)
    · rintro _ rfl
      rw [nI_1]
      rw [if_pos c] at e
      rw [show plainN T b i = plainN T b (i + 1) from e.symm]
      exact ih (i + 1) (by omega)
    · rw [nI_clamp (by omega), nI_clamp (by omega), (hr i (by omega)).1, (hm b hb).1, pk_mul, nI_add]
      rintro _ rfl _ rfl
      rw [nI_1]
      rw [if_neg (by rw [c]; decide)] at e
      rw [← e]
      exact ih (i + 1) (by omega)
theorem weather_ok {S : St} {T : Nat → Nat} (hR : RAIL S T) {b y : Nat} (hb : b < T 0) (hy : y < 10) {Q : Int32 → Prop} (h : Q (nI (plainN T b (y + 1)))) : w_X2_weather S (nI b) (nI y) Q :=
  ⟨y + 1 + 1, weather_loop hR hb hy (kx := fun v => Q v) h (y + 1) 0 (by omega)⟩
theorem plain_loop {S : St} {T : Nat → Nat} (hR : RAIL S T) {b y : Nat} (hb : b < T 0) (hy : y < 10) {kx : Int32 → Prop} (h : kx (nI (plainN T b (y + 1)))) : ∀ (j i : Nat), i + j = y + 1 → X7_plain_L5 S (nI b) (nI y) kx (j + 1) (nI (plainN T b i)) (nI i) := by
  have hR' := hR
  obtain ⟨⟨hB, hP, hN⟩, -, ht, -, -, -, -⟩ := hR'
  intro j
  induction j with
  | zero =>
    intro i hi
    obtain rfl : i = y + 1 := by omega
    rw [X7_plain_L5]
    exact pk_lt y (y + 1) (fun _ => h) (fun z => absurd z (by omega))
  | succ j ih =>
    intro i hi
    have e : plainN T b (i + 1) = plainN T b i + if cov T b i = true then 0 else T (13 + i) * T (4 + b) := rfl
    rw [X7_plain_L5]
    refine pk_lt y i (fun z => absurd z (by omega)) (fun _ => ?_)
    refine paintOf_ok hR (by omega) (by omega) ?_
    have hc : cov T b i = true ↔ pv T b i ≠ 0 := by
      rw [pv_eq]
      by_cases w : wet T b i = true
      · simp [w, wet_cov hR w]
      · by_cases c : cov T b i = true <;> simp [w, c]
    have h2 : pv T b i ≤ 2 := by rw [pv_eq]; split <;> (try split) <;> omega
    refine pk_eqN (pv T b i) 0 (fun c => ?_) (fun c => ⟨vin' (13 + i) (by omega) (nI_add 13 i), vin' (4 + b) (by omega) (nI_add 4 b), ?_⟩)
    · rintro _ rfl _ rfl
      rw [nI_1, show nI (plainN T b i) + 0 = nI (plainN T b i) from by rw [show (0 : Int32) = nI 0 from rfl, nI_add, Nat.add_zero]]
      rw [if_pos (hc.mpr c)] at e
      rw [show plainN T b i = plainN T b (i + 1) from e.symm]
      exact ih (i + 1) (by omega)
    · have e13 : (13 : Int32) + nI i = nI (13 + i) := nI_add 13 i
      have e4 : (4 : Int32) + nI b = nI (4 + b) := nI_add 4 b
      rw [e13, e4, nI_clamp (by omega), nI_clamp (by omega), ht _ (by omega), ht _ (by omega), pk_mul, nI_add]
      rintro _ rfl _ rfl
      rw [nI_1]
      rw [if_neg (fun z => hc.mp z c)] at e
      rw [← e]
      exact ih (i + 1) (by omega)
theorem plain_ok {S : St} {T : Nat → Nat} (hR : RAIL S T) {b y : Nat} (hb : b < T 0) (hy : y < 10) {Q : Int32 → Prop} (h : Q (nI (plainN T b (y + 1)))) : w_X7_plain S (nI b) (nI y) Q :=
  ⟨y + 1 + 1, plain_loop hR hb hy (kx := fun v => Q v) h (y + 1) 0 (by omega)⟩
/-- in how many of n years from f on the bar isn't wet -/
def dryN (T : Nat → Nat) (b f n : Nat) : Nat := sm (fun i => dry1 T b (f + i)) n
theorem dryYears_loop {S : St} {T : Nat → Nat} (hR : RAIL S T) {b f y : Nat} (hb : b < T 0) (hf : f ≤ 10) (hy : y < 10) {kx : Int32 → Prop} (h : kx (nI (dryN T b f (y + 1 - f)))) : ∀ (j i : Nat), i + j = y + 1 - f → X2_dryYears_L6 S (nI b) (nI y) kx (j + 1) (nI (dryN T b f i)) (nI (f + i)) := by
  have hR' := hR
  obtain ⟨⟨hB, hP, hN⟩, -, -, -, -, -, -⟩ := hR'
  intro j
  induction j with
  | zero =>
    intro i hi
    obtain rfl : i = y + 1 - f := by omega
    rw [X2_dryYears_L6]
    exact pk_lt y (f + (y + 1 - f)) (fun _ => h) (fun z => absurd z (by omega))
  | succ j ih =>
    intro i hi
    have e : dryN T b f (i + 1) = dryN T b f i + dry1 T b (f + i) := rfl
    rw [X2_dryYears_L6]
    refine pk_lt y (f + i) (fun z => absurd z (by omega)) (fun _ => pk_le 10 (f + i) (fun z => absurd z (by omega)) (fun _ => ?_))
    refine isWet_ok hR (by omega) (by omega) (fun c => nb_t (by decide) ?_) (fun c => nb_f rfl ?_)
    · rintro _ rfl
      rw [nI_1, Nat.add_assoc]
      rw [dry1, if_pos c] at e
      rw [show dryN T b f i = dryN T b f (i + 1) from e.symm]
      exact ih (i + 1) (by omega)
    · rintro _ rfl _ rfl
      rw [nI_1, nI_1, Nat.add_assoc]
      rw [dry1, if_neg (by rw [c]; decide)] at e
      rw [← e]
      exact ih (i + 1) (by omega)
theorem dryYears_ok {S : St} {T : Nat → Nat} (hR : RAIL S T) {b f y : Nat} (hb : b < T 0) (hf : f ≤ 10) (hy : y < 10) {Q : Int32 → Prop} (h : Q (nI (dryN T b f (y + 1 - f)))) : w_X2_dryYears S (nI b) (nI f) (nI y) Q :=
  ⟨y + 1 - f + 1, dryYears_loop hR hb hf hy (kx := fun v => Q v) h (y + 1 - f) 0 (by omega)⟩
/-- what hold k adds to bar b by year y -/
def heldN (T X : Nat → Nat) (b y k : Nat) : Nat := if X (13 + k) = b then T (10 + X (1 + k)) * sm (fun i => if X (25 + k) + i ≤ y then dry1 T b (X (25 + k) + i) else 0) (X (37 + k)) else 0
def rustN (T X : Nat → Nat) (b y : Nat) : Nat := plainN T b (y + 1) + sm (heldN T X b y) (X 0)
def rustK (T X : Nat → Nat) (b y k : Nat) : Nat := plainN T b (y + 1) + sm (heldN T X b y) k
theorem held_dry (T X : Nat → Nat) (b y k : Nat) (h1 : 1 ≤ X (37 + k)) : sm (fun i => if X (25 + k) + i ≤ y then dry1 T b (X (25 + k) + i) else 0) (X (37 + k)) = dryN T b (X (25 + k)) ((if X (25 + k) + X (37 + k) - 1 < y then X (25 + k) + X (37 + k) - 1 else y) + 1 - X (25 + k)) := by
  symm
  refine sm_cut ?_ (fun i hi => ?_) (fun i hi h2 => ?_)
  · split <;> omega
  · rw [if_pos]
    split at hi <;> omega
  · rw [if_neg]
    split at hi <;> omega
theorem rustByHolds_loop {S : St} {T X Z : Nat → Nat} (hR : RAIL S T) (hW : NOW S T X Z) {b y : Nat} (hb : b < T 0) (hy : y < 10) {kx : Int32 → Prop} (h : kx (nI (rustN T X b y))) : ∀ (j i : Nat), i + j = X 0 → X6_rustByHolds_L13 S (nI b) (nI y) kx (j + 1) (nI (rustK T X b y i)) (nI i) := by
  have hR' := hR
  obtain ⟨⟨hB, hP, hN⟩, -, -, -, hg, -, -⟩ := hR'
  obtain ⟨x12, ec, -, he, hv, -, -⟩ := hW
  intro j
  induction j with
  | zero =>
    intro i hi
    obtain rfl : i = X 0 := by omega
    rw [X6_rustByHolds_L13, ec]
    exact pk_le (X 0) (X 0) (fun _ => h) (fun z => absurd z (by omega))
  | succ j ih =>
    intro i hi
    have e : rustK T X b y (i + 1) = rustK T X b y i + heldN T X b y i := (Nat.add_assoc _ _ _).symm
    obtain ⟨v1, v2, v3, v4, v5⟩ := hv i (by omega)
    obtain ⟨e1, e2, e3, e4⟩ := he i (by omega)
    rw [X6_rustByHolds_L13, ec]
    refine pk_le (X 0) i (fun z => absurd z (by omega)) (fun _ => ⟨vin (by omega), ?_⟩)
    rw [nI_clamp (by omega), e2]
    refine pk_eqN (X (13 + i)) b (fun c => ?_) (fun c => ⟨vin (by omega), vin (by omega), ?_⟩)
    · rintro _ rfl
      rw [nI_1]
      rw [heldN, if_neg c] at e
      rw [show rustK T X b y i = rustK T X b y (i + 1) from e.symm]
      exact ih (i + 1) (by omega)
    · rw [e3, e4, e1, nI_add, nI_m1 _ (by omega)]
      intro x hx
      have hx2 : x = nI (if X (25 + i) + X (37 + i) - 1 < y then X (25 + i) + X (37 + i) - 1 else y) := by
        rw [hx]
        by_cases q : X (25 + i) + X (37 + i) - 1 < y
        · rw [if_pos q, if_pos ((nI_ltI (by omega) (by omega)).mpr q)]
        · rw [if_neg q, if_neg (fun z => q ((nI_ltI (by omega) (by omega)).mp z))]
      subst hx2
      refine ⟨vin (by omega), vin (by omega), vin (by omega), ?_⟩
      rw [nI_clamp (by omega), (hg _ v1).1]
      have hm : (if X (25 + i) + X (37 + i) - 1 < y then X (25 + i) + X (37 + i) - 1 else y) < 10 := by split <;> omega
      refine dryYears_ok hR hb (by omega) hm ?_
      rw [pk_mul, nI_add]
      rintro _ rfl _ rfl
      rw [nI_1]
      rw [heldN, if_pos c, held_dry T X b y i v4] at e
      rw [← e]
      exact ih (i + 1) (by omega)
theorem rustByHolds_ok {S : St} {T X Z : Nat → Nat} (hR : RAIL S T) (hW : NOW S T X Z) {b y : Nat} (hb : b < T 0) (hy : y < 10) {Q : Int32 → Prop} (h : Q (nI (rustN T X b y))) : w_X6_rustByHolds S (nI b) (nI y) Q := by
  rw [w_X6_rustByHolds]
  refine weather_ok hR hb hy ?_
  exact ⟨X 0 + 1, rustByHolds_loop hR hW hb hy (kx := fun v => Q v) h (X 0) 0 (by omega)⟩
/-- the reference's sum inside one hold -/
theorem rustOf_loop2 {S : St} {T X Z : Nat → Nat} (hR : RAIL S T) (hW : NOW S T X Z) {b y k r0 : Nat} (hb : b < T 0) (hy : y < 10) (hk : k < X 0) {kx : Int32 → Prop} (h : kx (nI (r0 + heldN T X b y k))) : ∀ (j i : Nat), i + j = X (37 + k) → X7_rustOf_L24 S (nI b) (nI y) (nI k) kx (j + 1) (nI (r0 + if X (13 + k) = b then T (10 + X (1 + k)) * sm (fun i => if X (25 + k) + i ≤ y then dry1 T b (X (25 + k) + i) else 0) i else 0)) (nI i) := by
  have hR' := hR
  obtain ⟨⟨hB, hP, hN⟩, -, ht, -, hg, -, -⟩ := hR'
  obtain ⟨x12, ec, hs, he, hv, -, -⟩ := hW
  obtain ⟨v1, v2, v3, v4, v5⟩ := hv k hk
  have e37 : (37 : Int32) + nI k = nI (37 + k) := nI_add 37 k
  have e25 : (25 : Int32) + nI k = nI (25 + k) := nI_add 25 k
  have e13 : (13 : Int32) + nI k = nI (13 + k) := nI_add 13 k
  have e1 : (1 : Int32) + nI k = nI (1 + k) := nI_add 1 k
  have hs2 : ∀ i, i < 49 → S.1 53 i = nI (X i) := fun i hi => by
    have := hs i hi
    rwa [Nat.zero_add] at this
  have z0 : ∀ n : Nat, nI n + 0 = nI n := fun n => by rw [show (0 : Int32) = nI 0 from rfl, nI_add, Nat.add_zero]
  intro j
  induction j with
  | zero =>
    intro i hi
    obtain rfl : i = X (37 + k) := by omega
    rw [X7_rustOf_L24, e37, nI_clamp (by omega), hs2 _ (by omega)]
    exact ⟨vin (by omega), pk_le (X (37 + k)) (X (37 + k)) (fun _ => h) (fun z => absurd z (by omega))⟩
  | succ j ih =>
    intro i hi
    rw [X7_rustOf_L24, e37, e25, e13, e1, nI_clamp (by omega), nI_clamp (by omega), nI_clamp (by omega), nI_clamp (by omega), hs2 _ (by omega), hs2 _ (by omega), hs2 _ (by omega), hs2 _ (by omega)]
    refine ⟨vin (by omega), pk_le (X (37 + k)) i (fun z => absurd z (by omega)) (fun _ => ⟨vin (by omega), ?_⟩)⟩
    rw [nI_add]
    rintro _ rfl
    refine ⟨vin (by omega), pk_eqN (X (13 + k)) b (fun c => ?_) (fun c => ?_)⟩
    · rintro _ rfl _ rfl
      rw [z0, nI_1]
      have h1 := ih (i + 1) (by omega)
      rw [if_neg c] at h1 ⊢
      exact h1
    · have h1 := ih (i + 1) (by omega)
      rw [if_pos c] at h1 ⊢
      rw [sm] at h1
      refine pk_lt y (X (25 + k) + i) (fun c2 => ?_) (fun c2 => ?_)
      · rintro _ rfl _ rfl
        rw [z0, nI_1]
        rw [if_neg (by omega : ¬ X (25 + k) + i ≤ y)] at h1
        exact h1
      · rw [if_pos (by omega : X (25 + k) + i ≤ y)] at h1
        refine paintOf_ok hR (by omega) (by omega) ?_
        have hw : pv T b (X (25 + k) + i) = 2 ↔ wet T b (X (25 + k) + i) = true := by
          rw [pv_eq]
          by_cases w : wet T b (X (25 + k) + i) = true
          · simp [w]
          · rw [if_neg w]
            constructor
            · intro z
              split at z <;> omega
            · intro z
              exact absurd z w
        have h2 : pv T b (X (25 + k) + i) ≤ 2 := by rw [pv_eq]; split <;> (try split) <;> omega
        refine pk_eq (pv T b (X (25 + k) + i)) 2 (fun c3 => ?_) (fun c3 => ⟨vin (by omega), ?_⟩)
        · rintro _ rfl _ rfl
          rw [z0, nI_1]
          rw [dry1, if_pos (hw.mp c3)] at h1
          exact h1
        · have e10 : (10 : Int32) + nI (X (1 + k)) = nI (10 + X (1 + k)) := nI_add 10 _
          rw [e10, nI_clamp (by omega), ht _ (by omega), nI_add]
          refine ⟨vin (by omega), ?_⟩
          rintro _ rfl _ rfl
          rw [nI_1]
          rw [dry1, if_neg (fun z => c3 (hw.mpr z)), Nat.mul_add, Nat.mul_one, ← Nat.add_assoc] at h1
          exact h1
theorem rustOf_loop {S : St} {T X Z : Nat → Nat} (hR : RAIL S T) (hW : NOW S T X Z) {b y : Nat} (hb : b < T 0) (hy : y < 10) {kx : Int32 → Prop} (h : kx (nI (rustN T X b y))) : ∀ (j i : Nat), i + j = X 0 → X7_rustOf_L10 S (nI b) (nI y) kx (j + 1) (nI (rustK T X b y i)) (nI i) := by
  have hW' := hW
  obtain ⟨x12, ec, hs, he, hv, -, -⟩ := hW'
  have hs0 : S.1 53 0 = nI (X 0) := hs 0 (by omega)
  have z0 : (0 : Int32).toNatClampNeg = 0 := rfl
  intro j
  induction j with
  | zero =>
    intro i hi
    obtain rfl : i = X 0 := by omega
    rw [X7_rustOf_L10, z0, hs0]
    exact ⟨vin (i := 0) (by omega), pk_le (X 0) (X 0) (fun _ => h) (fun z => absurd z (by omega))⟩
  | succ j ih =>
    intro i hi
    have e : rustK T X b y (i + 1) = rustK T X b y i + heldN T X b y i := (Nat.add_assoc _ _ _).symm
    rw [X7_rustOf_L10, z0, hs0]
    refine ⟨vin (i := 0) (by omega), pk_le (X 0) i (fun z => absurd z (by omega)) (fun _ => ⟨X (37 + i) + 1, ?_⟩)⟩
    have h1 := rustOf_loop2 hR hW (r0 := rustK T X b y i) hb hy (show i < X 0 by omega) (kx := fun v24 => ∀ x25 : Int32, x25 = nI i + 1 → X7_rustOf_L10 S (nI b) (nI y) kx (j + 1) v24 x25) (by
      rintro _ rfl
      rw [nI_1, ← e]
      exact ih (i + 1) (by omega)) (X (37 + i)) 0 (by omega)
    have e0 : rustK T X b y i + (if X (13 + i) = b then T (10 + X (1 + i)) * sm (fun i_1 => if X (25 + i) + i_1 ≤ y then dry1 T b (X (25 + i) + i_1) else 0) 0 else 0) = rustK T X b y i := by
      split <;> simp [sm]
    rw [e0] at h1
    exact h1
theorem rustOf_ok {S : St} {T X Z : Nat → Nat} (hR : RAIL S T) (hW : NOW S T X Z) {b y : Nat} (hb : b < T 0) (hy : y < 10) {Q : Int32 → Prop} (h : Q (nI (rustN T X b y))) : w_X7_rustOf S (nI b) (nI y) Q := by
  rw [w_X7_rustOf]
  refine plain_ok hR hb hy ?_
  exact ⟨X 0 + 1, rustOf_loop hR hW hb hy (kx := fun v => Q v) h (X 0) 0 (by omega)⟩
theorem ok_rust {S : St} {T X Z : Nat → Nat} (hR : RAIL S T) (hW : NOW S T X Z) (x y : Int32) : w_X6_rust S x y (fun r => w_X7_rust S x y (fun r2 => r = r2)) := by
  have hR' := hR
  obtain ⟨⟨hB, -, -⟩, ⟨e0, -, -⟩, ht, -⟩ := hR'
  unfold w_X6_rust w_X7_rust
  rcases bar_cases hR x with ⟨j, hj, rfl⟩ | ⟨h1, h2⟩
  · refine hasBar_in e0 hB hj (br_f (by decide) ?_)
    rcases year_cases y with ⟨i, hi, rfl⟩ | h1
    · refine isYear_in hi (nb_t (by decide) (rustByHolds_ok hR hW hj hi ?_))
      refine isBar_in (ht 0 (by omega)) hB hj (br_f (by decide) ?_)
      refine in_in 0 9 i (by omega) (by omega) (br_f (by decide) ?_)
      exact rustOf_ok hR hW hj hi rfl
    · exact isYear_out h1 (nb_f rfl (isBar_in (ht 0 (by omega)) hB hj (br_f (by decide) (in_out h1 (br_t rfl rfl)))))
  · exact hasBar_out h1 (br_t rfl (isBar_out h2 (br_t rfl rfl)))
