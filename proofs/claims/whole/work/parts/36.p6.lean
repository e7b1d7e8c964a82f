/-! count, rate. -/
def tolN (Z : Nat → Nat) (n : Nat) : Nat := sm (fun j => if Z j = 0 then 0 else 1) n
theorem add_z (n : Nat) : nI n + 0 = nI n := by rw [show (0 : Int32) = nI 0 from rfl, nI_add, Nat.add_zero]
theorem sightsTold_loop {S : St} {T X Z : Nat → Nat} (hW : NOW S T X Z) {kx : Int32 → Prop} (h : kx (nI (tolN Z 6))) : ∀ (j i : Nat), i + j = 6 → X1_sightsTold_L4 S kx (j + 1) (nI (tolN Z i)) (nI i) := by
  have hW' := hW
  obtain ⟨x12, ec, hs, he, hv, hz, hz2⟩ := hW'
  intro j
  induction j with
  | zero =>
    intro i hi
    obtain rfl : i = 6 := by omega
    rw [X1_sightsTold_L4]
    exact pk_le 6 6 (fun _ => h) (fun z => absurd z (by omega)) rfl rfl
  | succ j ih =>
    intro i hi
    obtain ⟨a1, a2, a3⟩ := hz i (by omega)
    have e : tolN Z (i + 1) = tolN Z i + if Z i = 0 then 0 else 1 := rfl
    rw [X1_sightsTold_L4]
    refine pk_le 6 i (fun z => absurd z (by omega)) (fun _ => ⟨vin (by omega), ?_⟩) rfl rfl
    rw [nI_clamp (by omega), a1]
    by_cases c : Z i = 0
    · rw [if_pos c] at e
      refine br_t ((enc_9 a3).mpr c) ?_
      rintro _ rfl
      rw [nI_1, show tolN Z i = tolN Z (i + 1) from e.symm]
      exact ih (i + 1) (by omega)
    · rw [if_neg c] at e
      refine br_f (fun q => c ((enc_9 a3).mp q)) ?_
      rintro _ rfl _ rfl
      rw [nI_1, nI_1, ← e]
      exact ih (i + 1) (by omega)
theorem told_loop {S : St} {T X Z : Nat → Nat} (hR : RAIL S T) (hW : NOW S T X Z) {kx : Int32 → Prop} (h : kx (nI (tolN Z (T 0)))) : ∀ (j i : Nat), i + j = T 0 → X7_count_L15 S (nI 4) kx (j + 1) (nI (tolN Z i)) (nI i) := by
  have hW' := hW
  obtain ⟨x12, ec, hs, he, hv, hz, hz2⟩ := hW'
  have hR' := hR
  obtain ⟨⟨hB, hP, hN⟩, -, ht, -, -, -, -⟩ := hR'
  have z0 : (0 : Int32).toNatClampNeg = 0 := rfl
  have e0 : S.1 51 0 = nI (T 0) := ht 0 (by omega)
  intro j
  induction j with
  | zero =>
    intro i hi
    obtain rfl : i = T 0 := by omega
    rw [X7_count_L15]
    refine ⟨vin (i := 0) (by omega), ?_⟩
    rw [z0, e0]
    exact pk_le (T 0) (T 0) (fun _ => h) (fun z => absurd z (by omega)) rfl rfl
  | succ j ih =>
    intro i hi
    obtain ⟨a1, a2, a3⟩ := hz i (by omega)
    rw [Nat.zero_add] at a2
    have e : tolN Z (i + 1) = tolN Z i + if Z i = 0 then 0 else 1 := rfl
    have e49 : (49 : Int32) + nI i = nI (49 + i) := nI_add 49 i
    rw [X7_count_L15]
    refine ⟨vin (i := 0) (by omega), ?_⟩
    rw [z0, e0]
    refine pk_le (T 0) i (fun z => absurd z (by omega)) (fun _ => nb_f rfl ⟨vin' (49 + i) (by omega) e49, ?_⟩) rfl rfl
    rw [e49, nI_clamp (by omega), a2]
    by_cases c : Z i = 0
    · rw [if_pos c] at e
      refine nb_f ((enc_9 a3).mpr c) ?_
      rintro _ rfl _ rfl
      rw [add_z, nI_1, show tolN Z i = tolN Z (i + 1) from e.symm]
      exact ih (i + 1) (by omega)
    · rw [if_neg c] at e
      refine nb_t (fun q => c ((enc_9 a3).mp q)) ?_
      rintro _ rfl _ rfl
      rw [nI_1, nI_1, ← e]
      exact ih (i + 1) (by omega)
theorem count_out {S : St} {T : Nat → Nat} (hR : RAIL S T) {x : Int32} (hx : ¬ x = 4) {kx : Int32 → Prop} (h : ∀ v, kx v) : X7_count_L15 S x kx 1 0 0 := by
  have hR' := hR
  obtain ⟨⟨hB, hP, hN⟩, -, ht, -, -, -, -⟩ := hR'
  rw [X7_count_L15]
  exact ⟨vin (i := 0) (by omega), fun _ => h _, fun _ => ⟨fun _ => h _, fun q => absurd q hx⟩⟩
theorem ok_count {S : St} (h : INV S) (x : Int32) : w_X6_count S x (fun r => w_X7_count S x (fun r2 => r = r2)) := by
  obtain ⟨T, X, Z, nt, hR, hW, hT, h0, h1, ht⟩ := h
  have hW' := hW
  obtain ⟨x12, ec, hs, he, hv, hz, hz2⟩ := hW'
  have hR' := hR
  obtain ⟨⟨hB, hP, hN⟩, ⟨b0, b1, b2⟩, htl, -, -, -, -⟩ := hR'
  have z0 : (0 : Int32).toNatClampNeg = 0 := rfl
  have es : S.1 53 0 = nI (X 0) := hs 0 (by omega)
  have four : (4 : Int32) = nI 4 := rfl
  unfold w_X6_count w_X7_count
  refine ⟨fun q => ?_, fun q => ?_, fun q => ?_, fun q => ?_, fun q => ?_, fun q => ?_, fun q => ?_⟩
  · refine in_out ?_ (nb_f rfl rfl)
    rw [Int32.lt_iff_toInt_lt, Int32.lt_iff_toInt_lt]
    exact q
  · subst q
    refine in_in 0 5 0 (by omega) (by omega) (nb_t (by decide) ⟨1, count_out hR (by decide) (fun v => br_f (by decide) ⟨vin (by omega), ?_⟩)⟩)
    rw [nI_clamp (by omega), htl 0 (by omega), b0]
  · subst q
    refine in_in 0 5 1 (by omega) (by omega) (nb_t (by decide) ⟨1, count_out hR (by decide) (fun v => br_f (by decide) ⟨vin (by omega), ?_⟩)⟩)
    rw [nI_clamp (by omega), htl 1 (by omega), b1]
  · subst q
    refine in_in 0 5 2 (by omega) (by omega) (nb_t (by decide) ⟨1, count_out hR (by decide) (fun v => br_f (by decide) ⟨vin (by omega), ?_⟩)⟩)
    rw [nI_clamp (by omega), htl 2 (by omega), b2]
  · subst q
    refine in_in 0 5 3 (by omega) (by omega) (nb_t (by decide) ⟨1, count_out hR (by decide) (fun v => br_t (by decide) (nb_f rfl ⟨vin (i := 0) (by omega), ?_⟩))⟩)
    rw [z0, es, ec]
  · subst q
    refine ⟨7, sightsTold_loop hW ?_ 6 0 (by omega)⟩
    refine in_in 0 5 4 (by omega) (by omega) (nb_t (by decide) ⟨T 0 + 1, told_loop hR hW (br_t (by decide) (nb_t (by decide) (nb_f rfl ?_))) (T 0) 0 (by omega)⟩)
    rw [show tolN Z (T 0) = tolN Z 6 from sm_cut hB (fun k _ => rfl) (fun k a b => by rw [hz2 k a b, if_pos rfl])]
  · subst q
    refine in_in 0 5 5 (by omega) (by omega) (nb_t (by decide) ⟨1, count_out hR (by decide) (fun v => br_t (by decide) (nb_t (by decide) (nb_t (by decide) ?_)))⟩)
    exact hT.2.1.trans hT.2.2.1.symm
def covN (T : Nat → Nat) (b n : Nat) : Nat := sm (fun y => if cov T b y = true then 1 else 0) n
theorem coveredYears_loop {S : St} {T : Nat → Nat} (hR : RAIL S T) {b : Nat} (hb : b < 6) {kx : Int32 → Prop} (h : kx (nI (covN T b 10))) : ∀ (j i : Nat), i + j = 10 → X2_coveredYears_L4 S (nI b) kx (j + 1) (nI (covN T b i)) (nI i) := by
  intro j
  induction j with
  | zero =>
    intro i hi
    obtain rfl : i = 10 := by omega
    rw [X2_coveredYears_L4]
    exact pk_le 10 10 (fun _ => h) (fun z => absurd z (by omega)) rfl rfl
  | succ j ih =>
    intro i hi
    have e : covN T b (i + 1) = covN T b i + if cov T b i = true then 1 else 0 := rfl
    rw [X2_coveredYears_L4]
    refine pk_le 10 i (fun z => absurd z (by omega)) (fun _ => ?_) rfl rfl
    refine isCovered_ok hR hb (by omega) (fun c => br_f (by decide) ?_) (fun c => br_t rfl ?_)
    · rintro _ rfl _ rfl
      rw [if_pos c] at e
      rw [nI_1, nI_1, ← e]
      exact ih (i + 1) (by omega)
    · rintro _ rfl
      rw [if_neg (by rw [c]; decide)] at e
      rw [nI_1, show covN T b i = covN T b (i + 1) from e.symm]
      exact ih (i + 1) (by omega)
theorem coveredYears_ok {S : St} {T : Nat → Nat} (hR : RAIL S T) {b : Nat} (hb : b < 6) {Q : Int32 → Prop} (h : Q (nI (covN T b 10))) : w_X2_coveredYears S (nI b) Q := ⟨11, coveredYears_loop hR hb (kx := fun v => Q v) h 10 0 (by omega)⟩
def hoN (X : Nat → Nat) (b n : Nat) : Nat := sm (fun k => if X (13 + k) = b then 1 else 0) n
theorem holdsOf_loop {S : St} {T X Z : Nat → Nat} (hR : RAIL S T) (hW : NOW S T X Z) {b : Nat} (hb : b < 6) {kx : Int32 → Prop} (h : kx (nI (hoN X b (X 0)))) : ∀ (j i : Nat), i + j = X 0 → X1_holdsOf_L4 S (nI b) kx (j + 1) (nI (hoN X b i)) (nI i) := by
  have hW' := hW
  obtain ⟨x12, ec, hs, he, hv, hz, hz2⟩ := hW'
  have hB := hR.1.1
  intro j
  induction j with
  | zero =>
    intro i hi
    obtain rfl : i = X 0 := by omega
    rw [X1_holdsOf_L4]
    exact pk_le (X 0) (X 0) (fun _ => h) (fun z => absurd z (by omega)) ec rfl
  | succ j ih =>
    intro i hi
    have e : hoN X b (i + 1) = hoN X b i + if X (13 + i) = b then 1 else 0 := rfl
    have hv1 := (hv i (by omega)).2.1
    rw [X1_holdsOf_L4]
    refine pk_le (X 0) i (fun z => absurd z (by omega)) (fun _ => ⟨vin (by omega), ?_⟩) ec rfl
    rw [nI_clamp (by omega), (he i (by omega)).2.1]
    refine pk_eqN (X (13 + i)) b (fun c => ?_) (fun c => ?_)
    · rintro _ rfl
      rw [if_neg c] at e
      rw [nI_1, show hoN X b i = hoN X b (i + 1) from e.symm]
      exact ih (i + 1) (by omega)
    · rintro _ rfl _ rfl
      rw [if_pos c] at e
      rw [nI_1, nI_1, ← e]
      exact ih (i + 1) (by omega)
theorem holdsOf_ok {S : St} {T X Z : Nat → Nat} (hR : RAIL S T) (hW : NOW S T X Z) {b : Nat} (hb : b < 6) {Q : Int32 → Prop} (h : Q (nI (hoN X b (X 0)))) : w_X1_holdsOf S (nI b) Q := ⟨X 0 + 1, holdsOf_loop hR hW hb (kx := fun v => Q v) h (X 0) 0 (by omega)⟩
theorem rail_loop {S : St} {T : Nat → Nat} (hR : RAIL S T) {b m : Nat} (x : Int32) (hb : b < 6) {kx : Int32 → Prop} (h : kx (nI (m + covN T b 10))) : ∀ (j i : Nat), i + j = 10 → X7_rate_L96 S x (nI b) kx (j + 1) (nI (m + covN T b i)) (nI i) := by
  intro j
  induction j with
  | zero =>
    intro i hi
    obtain rfl : i = 10 := by omega
    rw [X7_rate_L96]
    exact pk_le 10 10 (fun _ => h) (fun z => absurd z (by omega)) rfl rfl
  | succ j ih =>
    intro i hi
    have e : covN T b (i + 1) = covN T b i + if cov T b i = true then 1 else 0 := rfl
    have hc : cov T b i = true ↔ pv T b i ≠ 0 := by
      rw [pv_eq]
      by_cases w : wet T b i = true
      · simp [w, wet_cov hR w]
      · by_cases c : cov T b i = true <;> simp [w, c]
    have h2 : pv T b i ≤ 2 := by rw [pv_eq]; split <;> (try split) <;> omega
    rw [X7_rate_L96]
    refine pk_le 10 i (fun z => absurd z (by omega)) (fun _ => paintOf_ok hR hb (by omega) ?_) rfl rfl
    refine pk_le (pv T b i) 0 (fun c => ?_) (fun c => ?_) rfl rfl
    · rintro _ rfl _ rfl
      rw [if_neg (fun z => hc.mp z (by omega))] at e
      rw [add_z, nI_1, show covN T b i = covN T b (i + 1) from e.symm]
      exact ih (i + 1) (by omega)
    · rintro _ rfl _ rfl
      rw [if_pos (hc.mpr (by omega))] at e
      rw [nI_1, nI_1, Nat.add_assoc, ← e]
      exact ih (i + 1) (by omega)
theorem sub_step (a : Int32) (n : Nat) : a - nI n - 1 = a - nI (n + 1) := by
  rw [← nI_1]
  simp [Int32.sub_eq_add_neg, Int32.neg_add, Int32.add_assoc]
theorem sub_z (a : Int32) : a - 0 = a := by simp
theorem spike_loop {S : St} {T X Z : Nat → Nat} (hR : RAIL S T) (hW : NOW S T X Z) {b : Nat} (x y m : Int32) (hb : b < 6) {kx : Int32 → Prop} (h : kx (m - nI (hoN X b (X 0)))) : ∀ (j i : Nat), i + j = X 0 → X7_rate_L140 S x (nI b) y kx (j + 1) (m - nI (hoN X b i)) (nI i) := by
  have hW' := hW
  obtain ⟨x12, ec, hs, he, hv, hz, hz2⟩ := hW'
  have hB := hR.1.1
  have z0 : (0 : Int32).toNatClampNeg = 0 := rfl
  have es : S.1 53 0 = nI (X 0) := hs 0 (by omega)
  intro j
  induction j with
  | zero =>
    intro i hi
    obtain rfl : i = X 0 := by omega
    rw [X7_rate_L140]
    refine ⟨vin (i := 0) (by omega), ?_⟩
    rw [z0, es]
    exact pk_le (X 0) (X 0) (fun _ => h) (fun z => absurd z (by omega)) rfl rfl
  | succ j ih =>
    intro i hi
    have e : hoN X b (i + 1) = hoN X b i + if X (13 + i) = b then 1 else 0 := rfl
    have hv1 := (hv i (by omega)).2.1
    have e13 : (13 : Int32) + nI i = nI (13 + i) := nI_add 13 i
    have s13 : S.1 53 (13 + i) = nI (X (13 + i)) := by
      have := hs (13 + i) (by omega)
      rwa [Nat.zero_add] at this
    rw [X7_rate_L140]
    refine ⟨vin (i := 0) (by omega), ?_⟩
    rw [z0, es]
    refine pk_le (X 0) i (fun z => absurd z (by omega)) (fun _ => ⟨vin' (13 + i) (by omega) e13, ?_⟩) rfl rfl
    rw [e13, nI_clamp (by omega), s13]
    refine pk_eqN (X (13 + i)) b (fun c => ?_) (fun c => ?_)
    · rintro _ rfl _ rfl
      rw [if_neg c] at e
      rw [sub_z, nI_1, show hoN X b i = hoN X b (i + 1) from e.symm]
      exact ih (i + 1) (by omega)
    · rintro _ rfl _ rfl
      rw [if_pos c] at e
      rw [sub_step, nI_1, ← e]
      exact ih (i + 1) (by omega)
/-- the model's rate, at a bar, from what it traces on -/
theorem rate_ok {S : St} {T X Z : Nat → Nat} (hR : RAIL S T) (hW : NOW S T X Z) {b k : Nat} (hb : b < T 0) (hk : k ≤ 5) {Q : Int32 → St → Prop} (tr : Int64)
    (htr : tr = if k = 0 then 1 else if k = 1 then 11 else if k = 2 then 101 else if k = 3 then 1011 else if k = 4 then 10101 else 100001)
    (h : Q (if k = 0 then nI (T (4 + b)) else if k = 1 then nI (T (4 + b)) + nI (covN T b 10) else if k = 2 then nI (T (4 + b)) - nI (hoN X b (X 0)) else if k = 3 then 2 * (nI (T (4 + b)) + nI (covN T b 10)) else if k = 4 then nI (T (4 + b)) - nI (hoN X b (X 0)) + nI b else nI (T (4 + b)) + nI (rustN T X b 9)) (setL S 1 (S.2 1 + tr))) : w_X7_rate S (nI k) (nI b) Q := by
  have hR' := hR
  obtain ⟨⟨hB, hP, hN⟩, -, ht, -, -, -, -⟩ := hR'
  have e4 : (4 : Int32) + nI b = nI (4 + b) := nI_add 4 b
  have hm : S.1 51 (4 + b) = nI (T (4 + b)) := ht _ (by omega)
  unfold w_X7_rate
  refine in_in 0 5 k (by omega) hk (br_f (by decide) (isBar_in (ht 0 (by omega)) hB hb (nb_t (by decide) ?_)))
  refine nm_e ?_
  have main : ∀ S5 : St, S5 = setL S 1 (S.2 1 + tr) → (vp_in ((4 : Int32) + nI b) 47 ∧ ∀ x6 : Int32, x6 = S5.1 51 ((4 : Int32) + nI b).toNatClampNeg → (∃ n : Nat, X7_rate_L96 S5 (nI k) (nI b) (fun (v18) => (vp_in ((4 : Int32) + nI b) 47 ∧ ∀ x19 : Int32, x19 = S5.1 51 ((4 : Int32) + nI b).toNatClampNeg → (∃ n : Nat, X7_rate_L140 S5 (nI k) (nI b) v18 (fun (v31) => ((¬ nI k = 0 → ((¬ nI k = 1 → ((¬ nI k = 2 → ((¬ nI k = 3 → ((¬ nI k = 4 → (vp_in ((4 : Int32) + nI b) 47 ∧ (w_X7_rustOf S5 (nI b) 9 (fun r32 => Q ((S5.1 51 ((4 : Int32) + nI b).toNatClampNeg) + r32) S5)))) ∧ (nI k = 4 → Q (v31 + nI b) S5))) ∧ (nI k = 3 → Q (2 * v18) S5))) ∧ (nI k = 2 → Q v31 S5))) ∧ (nI k = 1 → Q v18 S5))) ∧ (nI k = 0 → (vp_in ((4 : Int32) + nI b) 47 ∧ Q (S5.1 51 ((4 : Int32) + nI b).toNatClampNeg) S5)))) n x19 0))) n x6 0)) := by
    intro S5 h5
    have hR5 : RAIL S5 T := by rw [h5]; exact hR
    have hW5 : NOW S5 T X Z := by rw [h5]; exact hW
    have hm5 : S5.1 51 (4 + b) = nI (T (4 + b)) := by rw [h5]; exact hm
    rw [← h5] at h
    rw [e4, nI_clamp (by omega), hm5]
    refine ⟨vin (by omega), ?_⟩
    rintro _ rfl
    refine ⟨11, rail_loop hR5 (nI k) (m := T (4 + b)) (by omega) ⟨vin (by omega), ?_⟩ 10 0 (by omega)⟩
    rintro _ rfl
    have s0 : nI (T (4 + b)) = nI (T (4 + b)) - nI (hoN X b 0) := (sub_z _).symm
    refine ⟨X 0 + 1, ?_⟩
    have go := spike_loop hR5 hW5 (b := b) (nI k) (nI (T (4 + b) + covN T b 10)) (nI (T (4 + b))) (by omega) (kx := fun (v31) => ((¬ nI k = 0 → ((¬ nI k = 1 → ((¬ nI k = 2 → ((¬ nI k = 3 → ((¬ nI k = 4 → (vp_in (nI (4 + b)) 47 ∧ (w_X7_rustOf S5 (nI b) 9 (fun r32 => Q (nI (T (4 + b)) + r32) S5)))) ∧ (nI k = 4 → Q (v31 + nI b) S5))) ∧ (nI k = 3 → Q (2 * nI (T (4 + b) + covN T b 10)) S5))) ∧ (nI k = 2 → Q v31 S5))) ∧ (nI k = 1 → Q (nI (T (4 + b) + covN T b 10)) S5))) ∧ (nI k = 0 → (vp_in (nI (4 + b)) 47 ∧ Q (nI (T (4 + b))) S5)))) ?_ (X 0) 0 (by omega)
    · rw [← s0] at go
      exact go
    · rw [nI_add] at h
      refine pk_eqN k 0 (fun c0 => pk_eqN k 1 (fun c1 => pk_eqN k 2 (fun c2 => pk_eqN k 3 (fun c3 => pk_eqN k 4 (fun c4 => ⟨vin (by omega), ?_⟩) (fun c => ?_)) (fun c => ?_)) (fun c => ?_)) (fun c => ?_)) (fun c => ⟨vin (by omega), ?_⟩)
      · rw [if_neg c0, if_neg c1, if_neg c2, if_neg c3, if_neg c4] at h
        exact rustOf_ok hR5 hW5 (y := 9) hb (by decide) h
      · subst c; exact h
      · subst c; exact h
      · subst c; exact h
      · subst c; exact h
      · subst c; exact h
  subst htr
  refine pk_eqN k 0 (fun c0 => pk_eqN k 1 (fun c1 => pk_eqN k 2 (fun c2 => pk_eqN k 3 (fun c3 => pk_eqN k 4 (fun c4 => ?_) (fun c => ?_)) (fun c => ?_)) (fun c => ?_)) (fun c => ?_)) (fun c => ?_)
  · rw [if_neg c0, if_neg c1, if_neg c2, if_neg c3, if_neg c4] at main
    exact main
  · subst c; exact main
  · subst c; exact main
  · subst c; exact main
  · subst c; exact main
  · subst c; exact main
theorem ok_rate {S : St} (h : INV S) (x y : Int32) : w_X6_rate S x y (fun r S1 => w_X7_rate S1 x y (fun r2 S2 => r = r2 ∧ INV S2)) := by
  have hI := h
  obtain ⟨T, X, Z, nt, hR, hW, hT, h0, h1, ht⟩ := h
  have hR' := hR
  obtain ⟨⟨hB, hP, hN⟩, ⟨e0, -, -⟩, htl, hm, -, -, -⟩ := hR'
  unfold w_X6_rate
  rcases bar_cases hR y with ⟨b, hb, rfl⟩ | ⟨g1, g2⟩
  · have hmb : S.1 12 b = nI (T (4 + b)) := (hm b hb).1
    refine hasBar_in e0 hB hb (nb_t (by decide) ⟨fun q => ?_, fun q => ?_, fun q => ?_, fun q => ?_, fun q => ?_, fun q => ?_, fun q => ?_⟩)
    · unfold w_X7_rate
      refine in_out ?_ (br_t rfl ⟨rfl, hI⟩)
      rw [Int32.lt_iff_toInt_lt, Int32.lt_iff_toInt_lt]
      exact q
    · subst q
      unfold w_X6_rateOfBar
      rintro _ rfl
      refine ⟨vin (by omega), ?_⟩
      refine rate_ok (k := 0) (S := setL S 0 (S.2 0 + 1)) hR hW hb (by omega) 1 rfl ⟨?_, T, X, Z, nt, hR, hW, hT, h0, h1, ?_⟩
      · rw [nI_clamp (by omega)]
        exact hmb
      · show S.2 0 + 1 = S.2 1 + 1
        rw [ht]
    · subst q
      unfold w_X6_rateOfRail w_X6_rateOfBar
      rintro _ rfl _ rfl
      refine ⟨vin (by omega), ?_⟩
      refine coveredYears_ok (S := setL (setL S 0 (S.2 0 + 10)) 0 (S.2 0 + 10 + 1)) (T := T) (b := b) hR (by omega) ?_
      refine rate_ok (k := 1) (S := setL (setL S 0 (S.2 0 + 10)) 0 (S.2 0 + 10 + 1)) hR hW hb (by omega) 11 rfl ⟨?_, T, X, Z, nt, hR, hW, hT, h0, h1, ?_⟩
      · rw [nI_clamp (by omega)]
        show S.1 12 b + _ = nI (T (4 + b)) + _
        rw [hmb]
      · show S.2 0 + 10 + 1 = S.2 1 + 11
        rw [ht, Int64.add_assoc]
        rfl
    · subst q
      unfold w_X6_rateOfSpike w_X6_rateOfBar
      rintro _ rfl _ rfl
      refine ⟨vin (by omega), ?_⟩
      refine holdsOf_ok (S := setL (setL S 0 (S.2 0 + 100)) 0 (S.2 0 + 100 + 1)) (T := T) (X := X) (Z := Z) (b := b) hR hW (by omega) ?_
      refine rate_ok (k := 2) (S := setL (setL S 0 (S.2 0 + 100)) 0 (S.2 0 + 100 + 1)) hR hW hb (by omega) 101 rfl ⟨?_, T, X, Z, nt, hR, hW, hT, h0, h1, ?_⟩
      · rw [nI_clamp (by omega)]
        show S.1 12 b - _ = nI (T (4 + b)) - _
        rw [hmb]
      · show S.2 0 + 100 + 1 = S.2 1 + 101
        rw [ht, Int64.add_assoc]
        rfl
    · subst q
      unfold w_X6_rateOfGate w_X6_rateOfRail w_X6_rateOfBar
      rintro _ rfl _ rfl _ rfl
      refine ⟨vin (by omega), ?_⟩
      refine coveredYears_ok (S := setL (setL (setL S 0 (S.2 0 + 1000)) 0 (S.2 0 + 1000 + 10)) 0 (S.2 0 + 1000 + 10 + 1)) (T := T) (b := b) hR (by omega) ?_
      refine rate_ok (k := 3) (S := setL (setL (setL S 0 (S.2 0 + 1000)) 0 (S.2 0 + 1000 + 10)) 0 (S.2 0 + 1000 + 10 + 1)) hR hW hb (by omega) 1011 rfl ⟨?_, T, X, Z, nt, hR, hW, hT, h0, h1, ?_⟩
      · rw [nI_clamp (by omega)]
        show 2 * (S.1 12 b + _) = 2 * (nI (T (4 + b)) + _)
        rw [hmb]
      · show S.2 0 + 1000 + 10 + 1 = S.2 1 + 1011
        rw [ht, Int64.add_assoc, Int64.add_assoc]
        rfl
    · subst q
      unfold w_X6_rateOfFinial w_X6_rateOfSpike w_X6_rateOfBar
      rintro _ rfl _ rfl _ rfl
      refine ⟨vin (by omega), ?_⟩
      refine holdsOf_ok (S := setL (setL (setL S 0 (S.2 0 + 10000)) 0 (S.2 0 + 10000 + 100)) 0 (S.2 0 + 10000 + 100 + 1)) (T := T) (X := X) (Z := Z) (b := b) hR hW (by omega) ?_
      refine rate_ok (k := 4) (S := setL (setL (setL S 0 (S.2 0 + 10000)) 0 (S.2 0 + 10000 + 100)) 0 (S.2 0 + 10000 + 100 + 1)) hR hW hb (by omega) 10101 rfl ⟨?_, T, X, Z, nt, hR, hW, hT, h0, h1, ?_⟩
      · rw [nI_clamp (by omega)]
        show S.1 12 b - _ + _ = nI (T (4 + b)) - _ + _
        rw [hmb]
      · show S.2 0 + 10000 + 100 + 1 = S.2 1 + 10101
        rw [ht, Int64.add_assoc, Int64.add_assoc]
        rfl
    · subst q
      unfold w_X6_rateOfNewOne w_X6_rateOfBar
      rintro _ rfl _ rfl
      refine ⟨vin (by omega), ?_⟩
      refine rustByHolds_ok (S := setL (setL S 0 (S.2 0 + 100000)) 0 (S.2 0 + 100000 + 1)) (T := T) (X := X) (Z := Z) (y := 9) hR hW hb (by decide) ?_
      refine rate_ok (k := 5) (S := setL (setL S 0 (S.2 0 + 100000)) 0 (S.2 0 + 100000 + 1)) hR hW hb (by omega) 100001 rfl ⟨?_, T, X, Z, nt, hR, hW, hT, h0, h1, ?_⟩
      · rw [nI_clamp (by omega)]
        show S.1 12 b + _ = nI (T (4 + b)) + _
        rw [hmb]
      · show S.2 0 + 100000 + 1 = S.2 1 + 100001
        rw [ht, Int64.add_assoc]
        rfl
  · refine hasBar_out g1 (nb_f rfl ?_)
    unfold w_X7_rate
    rcases rng_cases x 0 5 (by omega) (by omega) with ⟨i, -, hi, rfl⟩ | g
    · exact in_in 0 5 i (by omega) hi (br_f (by decide) (isBar_out g2 (nb_f rfl ⟨rfl, hI⟩)))
    · exact in_out g (br_t rfl ⟨rfl, hI⟩)
