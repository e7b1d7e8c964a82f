/-! The model's ways: lays, figureOf, isWay; fits. -/
theorem nI_div {a b : Nat} (ha : a < 2 ^ 31) (hb : b < 2 ^ 31) : nI a / nI b = nI (a / b) := by
  have h := Nat.div_le_self a b
  apply Int32.toInt_inj.mp
  rw [Int32.toInt_div, nI_toInt ha, nI_toInt hb, nI_toInt (by omega)]
  have e : ((a : Int).tdiv (b : Int)) = ((a / b : Nat) : Int) := rfl
  rw [e]
  generalize a / b = c at h ⊢
  apply Int.bmod_eq_of_le <;> omega
theorem nI_mod {a b : Nat} (ha : a < 2 ^ 31) (hb : b < 2 ^ 31) : nI a - nI a / nI b * nI b = nI (a % b) := by
  rw [nI_div ha hb, pk_mul, pk_sub (Nat.div_mul_le_self a b)]
  congr 1
  have := Nat.div_add_mod a b
  rw [Nat.mul_comm] at this
  omega
theorem ne0_nI {a : Nat} (ha : a < 2 ^ 31) (h : a ≠ 0) : ¬ nI a = 0 := fun q => h (nI_inj (b := 0) ha (by omega) q)
theorem DD_le {T : Nat → Nat} (hT : T 0 ≤ 6 ∧ T 1 ≤ 3) : 1 ≤ DD T ∧ DD T ≤ 61 ∧ DD T ^ T 1 ≤ 226981 ∧ 1 ≤ DD T ^ T 1 := by
  refine ⟨?_, ?_, p61 hT.1 hT.2, Nat.pow_pos ?_⟩ <;> unfold DD <;> omega
theorem fig_lt {T : Nat → Nat} (way p : Nat) : fig T way p < DD T := Nat.mod_lt _ (by unfold DD; omega)
theorem dd_e {S : St} {T : Nat → Nat} (hR : RAIL S T) : (1 : Int32) + 10 * S.1 51 (0 : Int32).toNatClampNeg = nI (DD T) := by
  rw [show (0 : Int32).toNatClampNeg = 0 from rfl, hR.2.2.1 0 (by omega), show (10 : Int32) = nI 10 from rfl, pk_mul, show (1 : Int32) = nI 1 from rfl, nI_add, Nat.mul_comm]
  rfl
theorem figureOf_ok {S : St} {T : Nat → Nat} (hR : RAIL S T) {way p : Nat} (hway : way < 2 ^ 31) (hp : p < 3) {Q : Int32 → Prop} (h : Q (nI (fig T way p))) : w_X7_figureOf S (nI way) (nI p) Q := by
  have hD := DD_le (T := T) ⟨hR.1.1, hR.1.2.1⟩
  unfold w_X7_figureOf
  have loop : ∀ (j i : Nat), i + j = p → X7_figureOf_L5 S (nI p) (fun (v8) => (vp_in (0 : Int32) 47 ∧ (¬ ((1 : Int32) + ((10 : Int32) * (S.1 51 (0 : Int32).toNatClampNeg))) = 0 ∧ Q (v8 - v8 / ((1 : Int32) + ((10 : Int32) * (S.1 51 (0 : Int32).toNatClampNeg))) * ((1 : Int32) + ((10 : Int32) * (S.1 51 (0 : Int32).toNatClampNeg))))))) (j + 1) (nI (way / DD T ^ i)) (nI i) := by
    intro j
    induction j with
    | zero =>
      intro i hi
      obtain rfl : i = p := by omega
      have hw2 := Nat.div_le_self way (DD T ^ i)
      rw [X7_figureOf_L5]
      refine pk_le i i (fun _ => ⟨vin (i := 0) (by omega), ?_, ?_⟩) (fun c => absurd c (by omega)) rfl rfl
      · rw [dd_e hR]
        exact ne0_nI (by omega) (by omega)
      · rw [dd_e hR, nI_mod (by omega) (by omega)]
        exact h
    | succ j ih =>
      intro i hi
      have hw2 := Nat.div_le_self way (DD T ^ i)
      rw [X7_figureOf_L5]
      refine pk_le p i (fun c => absurd c (by omega)) (fun _ => ⟨vin (i := 0) (by omega), ?_, ?_⟩) rfl rfl
      · rw [dd_e hR]
        exact ne0_nI (by omega) (by omega)
      · rintro _ rfl _ rfl
        have e : nI (way / DD T ^ i) / ((1 : Int32) + 10 * S.1 51 (0 : Int32).toNatClampNeg) = nI (way / DD T ^ (i + 1)) := by
          rw [dd_e hR, nI_div (by omega) (by omega), Nat.div_div_eq_div_mul, ← Nat.pow_succ]
        rw [e, nI_1]
        exact ih (i + 1) (by omega)
  have go := loop p 0 (by omega)
  rw [Nat.pow_zero, Nat.div_one] at go
  exact ⟨p + 1, go⟩
def LAYS (S : St) (T : Nat → Nat) : Prop := (∀ b, b < T 0 → S.1 56 b = nI (bsN T b)) ∧ (∀ b, b < T 0 → ∀ y, y < 10 → S.1 57 (10 * b + y) = nI (dryN T b 0 (y + 1))) ∧ S.1 5015 0 = nI (DD T ^ T 1)
theorem LAYS.fr {L : List Nat} {S S2 : St} {T : Nat → Nat} (h : LAYS S T) (hF : FR L S S2) (hL : ∀ c, c ∈ [56, 57, 5015] → c ∉ L := by decide) : LAYS S2 T := by
  unfold LAYS at h ⊢
  rw [hF.1 56 (hL _ (by decide)), hF.1 57 (hL _ (by decide)), hF.1 5015 (hL _ (by decide))]
  exact h
theorem lays_dry {T : Nat → Nat} {b : Nat} (hb : b < T 0) {kx : St → Prop} : ∀ (j y : Nat) (S : St), y + j = 10 → RAIL S T → (∀ S2 : St, FR [57] S S2 → (∀ v, y ≤ v → v < 10 → S2.1 57 (10 * b + v) = nI (dryN T b 0 (v + 1))) → (∀ i, ¬ (10 * b + y ≤ i ∧ i < 10 * b + 10) → S2.1 57 i = S.1 57 i) → kx S2) → X7_lays_L29 (nI b) kx (j + 1) S (nI (dryN T b 0 y)) (nI y)
  | 0, y, S, hy, hR, h => by
    rw [X7_lays_L29]
    exact pk_le 10 y (fun _ => h S FR.rf (fun v a c => absurd c (by omega)) (fun i _ => rfl)) (fun c => absurd c (by omega)) rfl rfl
  | j + 1, y, S, hy, hR, h => by
    have hB := hR.1.1
    have e : dryN T b 0 (y + 1) = dryN T b 0 y + dry1 T b (0 + y) := rfl
    rw [Nat.zero_add] at e
    have go : ∀ x : Int32, x = nI (dry1 T b y) → ∀ x12 : Int32, x12 = nI (dryN T b 0 y) + x → (vp_in (((10 : Int32) * nI b) + nI y) 60 ∧ ∀ S13 : St, S13 = setA S 57 (upd (S.1 57) (((10 : Int32) * nI b) + nI y).toNatClampNeg x12) → ∀ x14 : Int32, x14 = nI y + (1 : Int32) → X7_lays_L29 (nI b) kx (j + 1) S13 x12 x14) := by
      intro x hx
      rw [hx, nI_add, ← e, show (10 : Int32) = nI 10 from rfl, pk_mul, nI_add]
      rintro _ rfl
      refine ⟨vin (by omega), ?_⟩
      rintro _ rfl _ rfl
      rw [nI_clamp (by omega), nI_1]
      have hF : FR [57] S (setA S 57 (upd (S.1 57) (10 * b + y) (nI (dryN T b 0 (y + 1))))) := FR.set FR.rf (by decide)
      refine lays_dry hb j (y + 1) _ (by omega) (hR.fr hF) (fun S2 f a c => h S2 (hF.tr f) (fun v v1 v2 => ?_) (fun i hi => ?_))
      · by_cases d : v = y
        · subst d
          rw [c _ (by omega)]
          show upd (S.1 57) (10 * b + v) _ (10 * b + v) = _
          rw [pk_us]
        · exact a v (by omega) v2
      · rw [c i (by omega)]
        exact pk_un (by omega)
    rw [X7_lays_L29]
    refine pk_le 10 y (fun c => absurd c (by omega)) (fun _ => paintOf_ok hR (by omega) (by omega) (nm_e ?_)) rfl rfl
    have h2 : pv T b y ≤ 2 := by rw [pv_eq]; split <;> (try split) <;> omega
    refine pk_eqN (pv T b y) 2 (fun c => go 1 ?_) (fun c => go 0 ?_)
    · rw [pv_eq] at c
      unfold dry1
      by_cases w : wet T b y = true
      · rw [if_pos w] at c
        exact absurd rfl c
      · rw [if_neg w]
        rfl
    · rw [pv_eq] at c
      unfold dry1
      by_cases w : wet T b y = true
      · rw [if_pos w]
        rfl
      · rw [if_neg w] at c
        split at c <;> omega
theorem lays_bars {T : Nat → Nat} {kx : St → Prop} : ∀ (j b : Nat) (S : St), b + j = T 0 → RAIL S T → (∀ i, i < b → S.1 56 i = nI (bsN T i)) → (∀ i, i < b → ∀ y, y < 10 → S.1 57 (10 * i + y) = nI (dryN T i 0 (y + 1))) → (∀ S2 : St, FR [56, 57] S S2 → (∀ i, i < T 0 → S2.1 56 i = nI (bsN T i)) → (∀ i, i < T 0 → ∀ y, y < 10 → S2.1 57 (10 * i + y) = nI (dryN T i 0 (y + 1))) → kx S2) → X7_lays_L2 kx (j + 1) S (nI b)
  | 0, b, S, hb, hR, h1, h2, h => by
    have hB := hR.1.1
    obtain rfl : b = T 0 := by omega
    rw [X7_lays_L2]
    refine ⟨vin (i := 0) (by omega), pk_le (T 0) (T 0) (fun _ => h S FR.rf h1 h2) (fun c => absurd c (by omega)) (hR.2.2.1 0 (by omega)) rfl⟩
  | j + 1, b, S, hb, hR, h1, h2, h => by
    have hB := hR.1.1
    have hbT : b < T 0 := by omega
    rw [X7_lays_L2]
    refine ⟨vin (i := 0) (by omega), pk_le (T 0) b (fun c => absurd c (by omega)) (fun _ => ?_) (hR.2.2.1 0 (by omega)) rfl⟩
    refine plain_ok (y := 9) hR hbT (by omega) ⟨vin (by omega), ?_⟩
    rintro _ rfl
    rw [nI_clamp (by omega)]
    have hF : FR [56] S (setA S 56 (upd (S.1 56) b (nI (plainN T b (9 + 1))))) := FR.set FR.rf (by decide)
    refine ⟨11, lays_dry hbT 10 0 _ (by omega) (hR.fr hF) (fun S2 f a c => ?_)⟩
    rintro _ rfl
    rw [nI_1]
    have hF2 : FR [56, 57] S S2 := (hF.mono (by decide)).tr (f.mono (by decide))
    have e56 : S2.1 56 = upd (S.1 56) b (nI (plainN T b (9 + 1))) := f.1 56 (by decide)
    refine lays_bars j (b + 1) S2 (by omega) (hR.fr hF2) (fun i hi => ?_) (fun i hi y hy => ?_) (fun S3 f3 a1 a2 => h S3 (hF2.tr f3) a1 a2)
    · rw [e56]
      by_cases d : i = b
      · subst d
        rw [pk_us]
        rfl
      · rw [pk_un d]
        exact h1 i (by omega)
    · by_cases d : i = b
      · subst d
        exact a y (by omega) hy
      · rw [c _ (by omega)]
        exact h2 i (by omega) y hy
theorem lays_ways {T : Nat → Nat} {kx : St → Prop} : ∀ (j p : Nat) (S : St), p + j = T 1 → RAIL S T → S.1 5015 0 = nI (DD T ^ p) → (∀ S2 : St, FR [5015] S S2 → S2.1 5015 0 = nI (DD T ^ T 1) → kx S2) → X7_lays_L84 kx (j + 1) S (nI p)
  | 0, p, S, hp, hR, e, h => by
    have hP := hR.1.2.1
    obtain rfl : p = T 1 := by omega
    rw [X7_lays_L84]
    exact ⟨vin (i := 1) (by omega), pk_le (T 1) (T 1) (fun _ => h S FR.rf e) (fun c => absurd c (by omega)) (hR.2.2.1 1 (by omega)) rfl⟩
  | j + 1, p, S, hp, hR, e, h => by
    have hP := hR.1.2.1
    rw [X7_lays_L84]
    refine ⟨vin (i := 1) (by omega), pk_le (T 1) p (fun c => absurd c (by omega)) (fun _ => ⟨vin (i := 0) (by omega), ?_⟩) (hR.2.2.1 1 (by omega)) rfl⟩
    rintro _ rfl _ rfl
    rw [nI_1, dd_e hR, e, pk_mul, ← Nat.pow_succ]
    have hF : FR [5015] S (setI S 5015 (nI (DD T ^ (p + 1)))) := FR.set FR.rf (by decide)
    exact lays_ways j (p + 1) _ (by omega) (hR.fr hF) rfl (fun S2 f a => h S2 (hF.tr f) a)
theorem lays_ok {S : St} {T : Nat → Nat} (hR : RAIL S T) {Q : St → Prop} (h : ∀ S2 : St, FR [56, 57, 5015] S S2 → LAYS S2 T → Q S2) : w_X7_lays S Q := by
  unfold w_X7_lays
  refine ⟨T 0 + 1, lays_bars (T 0) 0 S (by omega) hR (fun i hi => absurd hi (Nat.not_lt_zero i)) (fun i hi => absurd hi (Nat.not_lt_zero i)) (fun S19 f a1 a2 => ?_)⟩
  rintro _ rfl
  have hF : FR [56, 57, 5015] S (setI S19 5015 1) := FR.set (f.mono (by decide)) (by decide)
  refine ⟨T 1 + 1, lays_ways (T 1) 0 _ (by omega) (hR.fr hF) (by rw [Nat.pow_zero]; rfl) (fun S2 f2 a3 => h S2 (hF.tr (f2.mono (by decide))) ⟨fun i hi => ?_, fun i hi y hy => ?_, a3⟩)⟩
  · rw [f2.1 56 (by decide)]
    exact a1 i hi
  · rw [f2.1 57 (by decide)]
    exact a2 i hi y hy
theorem hw_le {S : St} {T Z : Nat → Nat} (hR : RAIL S T) (way : Nat) : ∀ (p b : Nat), p ≤ T 1 → b < T 0 → hw (wkN T Z) T way p b ≤ 90 + 90 * p
  | 0, b, hp, hb => by
    have := plainN_le hR hb (Nat.le_refl 10)
    exact this
  | p + 1, b, hp, hb => by
    have h1 := hw_le (Z := Z) hR way p b (by omega) hb
    rw [hw]
    unfold accN
    split
    · omega
    · unfold addc
      split
      · have h2 := lvN_le hR (b := (fig T way p - 1) / 10) (show p < T 1 by omega) (show (fig T way p - 1) % 10 < 10 from Nat.mod_lt _ (by omega))
        have h3 : (wkN T Z).2.1 p ((fig T way p - 1) / 10) ((fig T way p - 1) % 10) = lvN T p ((fig T way p - 1) / 10) ((fig T way p - 1) % 10) := rfl
        omega
      · omega
theorem way_base {S0 : St} {T : Nat → Nat} {x : Int32} {kx : St → Prop} : ∀ (j b : Nat) (S : St), b + j = T 0 → RAIL S T → LAYS S T → (∀ i, i < b → S.1 58 i = nI (bsN T i)) → (∀ S2 : St, FR [58] S S2 → (∀ i, i < T 0 → S2.1 58 i = nI (bsN T i)) → kx S2) → X7_isWay_L2 x kx (j + 1) S (nI b)
  | 0, b, S, hb, hR, hL, h1, h => by
    have hB := hR.1.1
    obtain rfl : b = T 0 := by omega
    rw [X7_isWay_L2]
    exact ⟨vin (i := 0) (by omega), pk_le (T 0) (T 0) (fun _ => h S FR.rf h1) (fun c => absurd c (by omega)) (hR.2.2.1 0 (by omega)) rfl⟩
  | j + 1, b, S, hb, hR, hL, h1, h => by
    have hB := hR.1.1
    rw [X7_isWay_L2]
    refine ⟨vin (i := 0) (by omega), pk_le (T 0) b (fun c => absurd c (by omega)) (fun _ => ⟨vin (by omega), vin (by omega), ?_⟩) (hR.2.2.1 0 (by omega)) rfl⟩
    rintro _ rfl _ rfl
    rw [nI_clamp (by omega), nI_1, hL.1 b (by omega)]
    have hF : FR [58] S (setA S 58 (upd (S.1 58) b (nI (bsN T b)))) := FR.set FR.rf (by decide)
    refine way_base (S0 := S0) j (b + 1) _ (by omega) (hR.fr hF) (hL.fr hF) (fun i hi => ?_) (fun S2 f a => h S2 (hF.tr f) a)
    show upd (S.1 58) b _ i = _
    by_cases d : i = b
    · subst d
      rw [pk_us]
    · rw [pk_un d]
      exact h1 i (by omega)
theorem way_people {T Z : Nat → Nat} {way : Nat} (hway : way < 2 ^ 31) {kx : St → Prop} : ∀ (j p : Nat) (S : St), p + j = T 1 → RAIL S T → LAYS S T → (∀ i, i < T 0 → S.1 58 i = nI (hw (wkN T Z) T way p i)) → (∀ S2 : St, FR [58] S S2 → (∀ i, i < T 0 → S2.1 58 i = nI (hw (wkN T Z) T way (T 1) i)) → kx S2) → X7_isWay_L32 (nI way) kx (j + 1) S (nI p)
  | 0, p, S, hp, hR, hL, h1, h => by
    have hP := hR.1.2.1
    obtain rfl : p = T 1 := by omega
    rw [X7_isWay_L32]
    exact ⟨vin (i := 1) (by omega), pk_le (T 1) (T 1) (fun _ => h S FR.rf h1) (fun c => absurd c (by omega)) (hR.2.2.1 1 (by omega)) rfl⟩
  | j + 1, p, S, hp, hR, hL, h1, h => by
    have hP := hR.1.2.1
    have hB := hR.1.1
    have hD := DD_le (T := T) ⟨hB, hP⟩
    have hf := fig_lt (T := T) way p
    rw [X7_isWay_L32]
    refine ⟨vin (i := 1) (by omega), pk_le (T 1) p (fun c => absurd c (by omega)) (fun _ => figureOf_ok hR hway (by omega) ?_) (hR.2.2.1 1 (by omega)) rfl⟩
    have ehw : hw (wkN T Z) T way (p + 1) = accN (wkN T Z) (hw (wkN T Z) T way p) p (fig T way p) := rfl
    generalize fig T way p = f at *
    refine pk_le f 0 (fun c => ?_) (fun c => ⟨by decide, ?_⟩) rfl rfl
    · rintro _ rfl
      rw [nI_1]
      refine way_people hway j (p + 1) S (by omega) hR hL (fun i hi => ?_) h
      rw [ehw, accN, if_pos (by omega)]
      exact h1 i hi
    · have hlt : f < 1 + T 0 * 10 := hf
      have q1 : (f - 1) / 10 < T 0 := by omega
      have q3 : f - 1 = 10 * ((f - 1) / 10) + (f - 1) % 10 := by omega
      have e10 : (10 : Int32) + nI p = nI (10 + p) := nI_add 10 p
      have ed : (nI f - 1) / 10 = nI ((f - 1) / 10) := by
        rw [nI_m1 _ (by omega), show (10 : Int32) = nI 10 from rfl, nI_div (by omega) (by omega)]
      rw [ed, e10, nI_m1 _ (by omega)]
      refine ⟨vin (by omega), vin (by omega), vin (by omega), vin (by omega), ?_⟩
      rintro _ rfl _ rfl
      rw [nI_clamp (by omega), nI_clamp (by omega), nI_clamp (by omega), nI_1, h1 _ q1, hR.2.2.1 _ (by omega)]
      have e57 : S.1 57 (f - 1) = nI (dryN T ((f - 1) / 10) 0 ((f - 1) % 10 + 1)) := by
        have := hL.2.1 ((f - 1) / 10) q1 ((f - 1) % 10) (Nat.mod_lt _ (by omega))
        rw [← q3] at this
        exact this
      rw [e57, pk_mul, nI_add]
      have hF : FR [58] S (setA S 58 (upd (S.1 58) ((f - 1) / 10) (nI (hw (wkN T Z) T way p ((f - 1) / 10) + T (10 + p) * dryN T ((f - 1) / 10) 0 ((f - 1) % 10 + 1))))) := FR.set FR.rf (by decide)
      refine way_people hway j (p + 1) _ (by omega) (hR.fr hF) (hL.fr hF) (fun i hi => ?_) (fun S2 g a => h S2 (hF.tr g) a)
      show upd (S.1 58) ((f - 1) / 10) _ i = _
      rw [ehw, accN, if_neg (by omega), addc]
      by_cases d : i = (f - 1) / 10
      · rw [if_pos d, d, pk_us]
        rfl
      · rw [if_neg d, pk_un d]
        exact h1 i hi
theorem way_good {S : St} {T X Z : Nat → Nat} (hR : RAIL S T) (hW : NOW S T X Z) {way : Nat} (h58 : ∀ i, i < T 0 → S.1 58 i = nI (hw (wkN T Z) T way (T 1) i)) {kx : Int32 → Prop} (h : kx (nI (good T Z way))) : ∀ (j i : Nat), i + j = T 0 → X7_isWay_L95 S kx (j + 1) (nI (pd (fun b => okN Z b (hw (wkN T Z) T way (T 1) b)) i)) (nI i)
  | 0, i, hi => by
    have hB := hR.1.1
    obtain rfl : i = T 0 := by omega
    rw [X7_isWay_L95]
    exact ⟨vin (i := 0) (by omega), pk_le (T 0) (T 0) (fun _ => h) (fun c => absurd c (by omega)) (hR.2.2.1 0 (by omega)) rfl⟩
  | j + 1, i, hi => by
    have hB := hR.1.1
    have hP := hR.1.2.1
    have hle : pd (fun b => okN Z b (hw (wkN T Z) T way (T 1) b)) i ≤ 1 := pd_le1 (fun k _ => okN_le Z k _)
    have e : pd (fun b => okN Z b (hw (wkN T Z) T way (T 1) b)) (i + 1) = pd (fun b => okN Z b (hw (wkN T Z) T way (T 1) b)) i * okN Z i (hw (wkN T Z) T way (T 1) i) := rfl
    have ih := way_good hR hW h58 h j (i + 1) (by omega)
    have hh := hw_le (Z := Z) hR way (T 1) i (Nat.le_refl _) (by omega)
    have hz := hW.2.2.2.2.2.1 i (by omega)
    have e49 : (49 : Int32) + nI i = nI (49 + i) := nI_add 49 i
    have es : S.1 53 (49 + i) = enc (Z i) := by
      have := hz.2.1
      rwa [Nat.zero_add] at this
    rw [e] at ih
    rw [X7_isWay_L95]
    refine ⟨vin (i := 0) (by omega), pk_le (T 0) i (fun c => absurd c (by omega)) (fun _ => ?_) (hR.2.2.1 0 (by omega)) rfl⟩
    generalize pd (fun b => okN Z b (hw (wkN T Z) T way (T 1) b)) i = g at *
    rw [e49]
    refine pk_eq g 0 (fun c => ?_) (fun c => ⟨vin (by omega), ?_⟩) rfl rfl
    · rintro _ rfl
      rw [nI_1]
      rw [c, Nat.zero_mul] at ih
      exact ih
    · obtain rfl : g = 1 := by omega
      rw [Nat.one_mul] at ih
      rw [nI_clamp (by omega), es]
      unfold okN at ih
      by_cases d : Z i = 0
      · refine br_t ((enc_9 hz.2.2).mpr d) ?_
        rintro _ rfl
        rw [if_pos (Or.inl d)] at ih
        rw [nI_1]
        exact ih
      · refine br_f (fun q => d ((enc_9 hz.2.2).mp q)) ⟨vin (by omega), vin (by omega), ?_⟩
        rw [nI_clamp (by omega), h58 i (by omega)]
        have ee : enc (Z i) = nI (Z i - 1) := by unfold enc; rw [if_neg d]
        rw [ee]
        have hz3 := hz.2.2
        refine pk_eqN (Z i - 1) (hw (wkN T Z) T way (T 1) i) (fun c2 => ?_) (fun c2 => ?_)
        · rintro _ rfl
          rw [if_neg (by omega)] at ih
          rw [nI_1]
          exact ih
        · rintro _ rfl
          rw [if_pos (by omega)] at ih
          rw [nI_1]
          exact ih
theorem good_le (T Z : Nat → Nat) (way : Nat) : good T Z way ≤ 1 := pd_le1 (fun k _ => okN_le Z k _)
theorem isWay_ok {S : St} {T X Z : Nat → Nat} (hR : RAIL S T) (hW : NOW S T X Z) (hL : LAYS S T) {way : Nat} (hway : way < 2 ^ 31) {Q : Int32 → St → Prop} (h : ∀ S2 : St, FR [58] S S2 → (∀ i, i < T 0 → S2.1 58 i = nI (hw (wkN T Z) T way (T 1) i)) → Q (nI (good T Z way)) S2) : w_X7_isWay S (nI way) Q := by
  unfold w_X7_isWay
  refine ⟨T 0 + 1, way_base (S0 := S) (T 0) 0 S (by omega) hR hL (fun i hi => absurd hi (Nat.not_lt_zero i)) (fun S7 f7 a7 => ?_)⟩
  refine ⟨T 1 + 1, way_people (Z := Z) hway (T 1) 0 S7 (by omega) (hR.fr f7) (hL.fr f7) a7 (fun S16 f16 a16 => ?_)⟩
  have f := f7.tr f16
  refine ⟨T 0 + 1, way_good (hR.fr f) (hW.fr f) a16 ⟨?_, h S16 f a16⟩ (T 0) 0 (by omega)⟩
  have := good_le T Z way
  rcases (by omega : good T Z way = 0 ∨ good T Z way = 1) with e | e
  · rw [e]
    exact zok0
  · rw [e]
    exact zok1
theorem fits_loop {T X Z : Nat → Nat} {kx : St → Int32 → Prop} : ∀ (j i : Nat) (S : St), i + j = DD T ^ T 1 → RAIL S T → NOW S T X Z → LAYS S T → (∀ S2 : St, FR [58] S S2 → kx S2 (nI (sm (good T Z) (DD T ^ T 1)))) → X7_fits_L8 kx (j + 1) S (nI (sm (good T Z) i)) (nI i)
  | 0, i, S, hi, hR, hW, hL, h => by
    have hD := DD_le (T := T) ⟨hR.1.1, hR.1.2.1⟩
    obtain rfl : i = DD T ^ T 1 := by omega
    rw [X7_fits_L8]
    exact pk_le (DD T ^ T 1) (DD T ^ T 1) (fun _ => h S FR.rf) (fun c => absurd c (by omega)) hL.2.2 rfl
  | j + 1, i, S, hi, hR, hW, hL, h => by
    have hD := DD_le (T := T) ⟨hR.1.1, hR.1.2.1⟩
    rw [X7_fits_L8]
    refine pk_le (DD T ^ T 1) i (fun c => absurd c (by omega)) (fun _ => isWay_ok hR hW hL (by omega) (fun S2 f _ => ?_)) hL.2.2 rfl
    have e : sm (good T Z) (i + 1) = sm (good T Z) i + good T Z i := rfl
    have hg := good_le T Z i
    refine pk_eq (good T Z i) 0 (fun c => ?_) (fun c => ?_) rfl rfl
    · rintro _ rfl _ rfl
      rw [c] at e
      have e2 := Eq.trans e (Nat.add_zero _)
      rw [add_z, nI_1, ← e2]
      exact fits_loop j (i + 1) S2 (by omega) (hR.fr f) (hW.fr f) (hL.fr f) (fun S3 f3 => h S3 (f.tr f3))
    · rintro _ rfl _ rfl
      rw [show good T Z i = 1 by omega] at e
      rw [nI_1, nI_1, ← e]
      exact fits_loop j (i + 1) S2 (by omega) (hR.fr f) (hW.fr f) (hL.fr f) (fun S3 f3 => h S3 (f.tr f3))
theorem ok_fits {S : St} (h : INV S) : w_X6_fits S (fun r S1 => w_X7_fits S1 (fun r2 S2 => r = r2 ∧ INV S2)) := by
  have hI := h
  obtain ⟨T, X, Z, nt, hR, hW, hT, h0, h1, ht⟩ := h
  have hB : T 0 ≤ 6 ∧ T 1 ≤ 3 := ⟨hR.1.1, hR.1.2.1⟩
  unfold w_X6_fits
  refine learn_ok hR hW (fun S1 f1 l1 => all_ok hB l1 (fun S2 f2 l2 => ?_))
  have f12 : FR scr S S2 := f1.tr (f2.mono (by decide))
  unfold w_X7_fits
  refine lays_ok (hR.fr f12) (fun S3 f3 l3 => ?_)
  have f13 : FR scr S S3 := f12.tr (f3.mono (by decide))
  refine ⟨DD T ^ T 1 + 1, fits_loop (X := X) (DD T ^ T 1) 0 S3 (by omega) (hR.fr f13) (hW.fr f13) l3 (fun S4 f4 => ⟨?_, hI.frame (f13.tr (f4.mono (by decide)))⟩)⟩
  have e : sm (good T Z) (DD T ^ T 1) = WB T Z allT 0 := all_sum hB.2
  rw [e]
