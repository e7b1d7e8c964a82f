/-! The class's Ways: canHaveHeld, leftAtWorst. -/
def cank (T Z : Nat → Nat) (p b w s : Nat) : Bool := s.testBit p && (decide (0 < WB T Z (off allT b) s) && decide (0 < Fq (wkN T Z) b (ls (T 1) (s ^^^ 2 ^ p)) (bsN T b + lvN T p b (w - 1))))
theorem fq1000 {T Z : Nat → Nat} (hP : T 1 ≤ 3) (b s x : Nat) (hs : s < 8) : Fq (wkN T Z) b (ls (T 1) s) x ≤ 1000 := by
  refine Nat.le_trans (Fq_le (k := wkN T Z) (okN_le Z) (fun _ _ _ => Nat.le_refl 1) b _ x) ?_
  calc 10 ^ (ls (T 1) s).length ≤ 10 ^ 3 := Nat.pow_le_pow_right (by omega) (ls_len _ hP s hs)
    _ = 1000 := rfl
theorem can_loop {S : St} {T X Z : Nat → Nat} (hR : RAIL S T) (hW : NOW S T X Z) (hL : LEARN S T Z) {p b w : Nat} (hb : b < T 0) (hp : p < T 1) (hw : w ≤ 10) (hw1 : 1 ≤ w) (hG : GATH S T Z (off allT b) (T 0)) {need : Int32} (hn : Z b ≠ 0 → need = nI (Z b - 1) - nI (bsN T b + lvN T p b (w - 1))) {Q : Int32 → St → Prop} {kx : Prop} (h1 : anyB (cank T Z p b w) (2 ^ T 1) = true → Q 1 S) (h0 : anyB (cank T Z p b w) (2 ^ T 1) = false → kx) : ∀ (j i : Nat), i + j = 2 ^ T 1 → (∀ s, s < i → cank T Z p b w s = false) → X5_canHaveHeld_L24 S (nI p) (nI b) need Q kx (j + 1) (nI i)
  | 0, i, hi, hno => by
    have hT : T 0 ≤ 6 ∧ T 1 ≤ 3 := ⟨hR.1.1, hR.1.2.1⟩
    have hp8 := pow_le8 (T 1) hT.2
    have e1 : (1 : Int32) <<< (S.1 3901 0 &&& 31) = nI (2 ^ T 1) := by
      rw [hL.1.2.1]
      exact sh_bits _ hT.2
    obtain rfl : i = 2 ^ T 1 := by omega
    rw [X5_canHaveHeld_L24]
    exact pk_le (2 ^ T 1) (2 ^ T 1) (fun _ => h0 (anyB_f hno)) (fun c => absurd c (by omega)) e1 rfl
  | j + 1, i, hi, hno => by
    have hT : T 0 ≤ 6 ∧ T 1 ≤ 3 := ⟨hR.1.1, hR.1.2.1⟩
    have hp8 := pow_le8 (T 1) hT.2
    have e1 : (1 : Int32) <<< (S.1 3901 0 &&& 31) = nI (2 ^ T 1) := by
      rw [hL.1.2.1]
      exact sh_bits _ hT.2
    have next : cank T Z p b w i = false → X5_canHaveHeld_L24 S (nI p) (nI b) need Q kx (j + 1) (nI i + 1) := by
      intro hc
      rw [nI_1]
      refine can_loop hR hW hL hb hp hw hw1 hG hn h1 h0 j (i + 1) (by omega) (fun s hs => ?_)
      by_cases c : s = i
      · rw [c]
        exact hc
      · exact hno s (by omega)
    rw [X5_canHaveHeld_L24]
    refine pk_le (2 ^ T 1) i (fun c => absurd c (by omega)) (fun _ => ?_) e1 rfl
    have h2p := two_lt _ hT.2 p hp
    refine isIn_ok (by omega) (by omega) (fun a => br_f (by decide) ?_) (fun a => br_t rfl ?_)
    · have hwb := WB_le (Z := Z) hT (off allT b) i
      refine waysBeside_ok hT hL hG (by omega) ?_
      refine pk_le (WB T Z (off allT b) i) 0 (fun c => ?_) (fun c => ?_) rfl rfl
      · rintro _ rfl
        refine next ?_
        unfold cank
        rw [show decide (0 < WB T Z (off allT b) i) = false from decide_eq_false (by omega), Bool.false_and, Bool.and_false]
      · obtain ⟨s1, s2, s3, s4⟩ := sub_bits i (by omega) (2 ^ p) (by omega)
        rw [sh_bits p (by omega), s2]
        have hfq := fq1000 (T := T) (Z := Z) hT.2 b (i ^^^ 2 ^ p) (bsN T b + lvN T p b (w - 1)) s3
        have hl := lvN_le hR (b := b) hp (show w - 1 < 10 by omega)
        have hbs := plainN_le hR hb (Nat.le_refl 10)
        refine winters_ok hR hL.1 (hL.2 b hb).2.1 (hL.2 b hb).1 hb s3 (hW.2.2.2.2.2.1 b (by omega)).2.2 (x := bsN T b + lvN T p b (w - 1)) (by unfold bsN; omega) hn ?_
        refine pk_le (Fq (wkN T Z) b (ls (T 1) (i ^^^ 2 ^ p)) (bsN T b + lvN T p b (w - 1))) 0 (fun d => ?_) (fun d => ?_) rfl rfl
        · rintro _ rfl
          refine next ?_
          unfold cank
          rw [show decide (0 < Fq (wkN T Z) b (ls (T 1) (i ^^^ 2 ^ p)) (bsN T b + lvN T p b (w - 1))) = false from decide_eq_false (by omega), Bool.and_false, Bool.and_false]
        · refine h1 (anyB_t (show i < 2 ^ T 1 by omega) ?_)
          unfold cank
          rw [a, decide_eq_true c, decide_eq_true d]
          rfl
    · rintro _ rfl
      refine next ?_
      unfold cank
      rw [show i.testBit p = false by cases hh : i.testBit p with | false => rfl | true => exact absurd hh a, Bool.false_and]
def CAN (T Z : Nat → Nat) (p b w : Nat) : Bool := anyB (cank T Z p b w) (2 ^ T 1)
theorem canHave_ok {S : St} {T X Z : Nat → Nat} (hR : RAIL S T) (hW : NOW S T X Z) (hL : LEARN S T Z) {p b w : Nat} (hb : b < T 0) (hp : p < T 1) (hw : w ≤ 10) (hw1 : 1 ≤ w) {Q : Int32 → St → Prop} (h1 : CAN T Z p b w = true → ∀ S2 : St, FR [44] S S2 → LEARN S2 T Z → Q 1 S2) (h0 : CAN T Z p b w = false → ∀ S2 : St, FR [44] S S2 → LEARN S2 T Z → Q 0 S2) : w_X5_canHaveHeld S (nI p) (nI b) (nI w) Q := by
  have hT : T 0 ≤ 6 ∧ T 1 ≤ 3 := ⟨hR.1.1, hR.1.2.1⟩
  unfold w_X5_canHaveHeld
  refine gather_ok (off allT b) hT hL (neb (by omega)) (fun S2 f g => ⟨vin (by omega), ?_⟩)
  have hL2 := hL.fr f
  refine leaves_ok hT hL2.1 (hL2.2 b hb).2.1 hb hp hw1 hw ?_
  rintro _ rfl
  rw [nI_clamp (by omega)]
  refine ⟨2 ^ T 1 + 1, can_loop (hR.fr f) (hW.fr f) hL2 hb hp hw hw1 g (fun q => ?_) (fun c => h1 c S2 f hL2) (fun c => h0 c S2 f hL2) (2 ^ T 1) 0 (by omega) (fun s hs => absurd hs (Nat.not_lt_zero s))⟩
  rw [(hL2.2 b hb).2.2.1 q, sub_nn]
/-- rows that leave just t -/
def kS (T : Nat → Nat) (t : Nat) : WK := (fun _ x => if x = t then 1 else 0, lvN T, fun _ => 1, fun _ _ _ => 1)
theorem spread_loop {T Z : Nat → Nat} (hT : T 0 ≤ 6 ∧ T 1 ≤ 3) {b p x m : Nat} {s3 : Int32} (hb : b < T 0) (hp : p < T 1) (L : List Nat) {wr : St → Int32 → Int32 → Int32 → Int32 → Int32 → (St → Prop) → Prop} (hwr : ∀ (w : Nat) (S : St) (Q : St → Prop), w < 10 → LEARN S T Z → (∀ S2 : St, FR [45] S S2 → (∀ t, t < 271 → S2.1 45 t = S.1 45 t + nI (m * Fq (kS T t) b L (x + lvN T p b w))) → Q S2) → wr S (nI b) s3 (nI m) (nI (p + 1)) (nI (x + lvN T p b w)) Q) {kx : St → Prop} : ∀ (j i : Nat) (S : St), i + j = 10 → LEARN S T Z → (∀ S2 : St, FR [45] S S2 → (∀ t, t < 271 → S2.1 45 t + nI (m * sm (fun w => 1 * Fq (kS T t) b L (x + lvN T p b w)) i) = S.1 45 t + nI (m * sm (fun w => 1 * Fq (kS T t) b L (x + lvN T p b w)) 10)) → kx S2) → X5_spread_L59 wr (nI b) s3 (nI m) (nI p) (nI x) kx (j + 1) S (nI (i + 1))
  | 0, i, S, hi, hL, h => by
    obtain rfl : i = 10 := by omega
    rw [X5_spread_L59]
    exact pk_lt 10 11 (fun _ => h S FR.rf (fun t _ => rfl)) (fun c => absurd c (by omega)) rfl rfl
  | j + 1, i, S, hi, hL, h => by
    rw [X5_spread_L59]
    refine pk_lt 10 (i + 1) (fun c => absurd c (by omega)) (fun _ => ?_) rfl rfl
    refine leaves_ok hT hL.1 (hL.2 b hb).2.1 hb hp (by omega) (by omega) ?_
    rw [Nat.add_sub_cancel, nI_add, nI_1]
    refine hwr i S _ (by omega) hL (fun S2 f a => ?_)
    rintro _ rfl
    rw [nI_1]
    refine spread_loop hT hb hp L hwr j (i + 1) S2 (by omega) (hL.fr f) (fun S3 f3 a3 => h S3 (f.tr f3) (fun t ht => ?_))
    have e1 := a3 t ht
    have e2 := a t ht
    rw [sm, Nat.one_mul, Nat.mul_add, ← nI_add, ← Int32.add_assoc, e2] at e1
    have e3 : S.1 45 t + nI (m * Fq (kS T t) b L (x + lvN T p b i)) + nI (m * sm (fun w => 1 * Fq (kS T t) b L (x + lvN T p b w)) 10) = S.1 45 t + nI (m * sm (fun w => 1 * Fq (kS T t) b L (x + lvN T p b w)) 10) + nI (m * Fq (kS T t) b L (x + lvN T p b i)) := by
      rw [Int32.add_assoc, Int32.add_comm (nI (m * Fq (kS T t) b L (x + lvN T p b i))), ← Int32.add_assoc]
    rw [e3] at e1
    exact (Int32.add_left_inj _).mp e1
theorem spread_ok {T X Z : Nat → Nat} {S0 : St} (hR : RAIL S0 T) {b s m : Nat} (hb : b < T 0) (hs : s < 8) : ∀ (r d p x : Nat) (S : St) (Q : St → Prop), p + r = T 1 → r < d → x ≤ 90 * p → LEARN S T Z → (∀ S2 : St, FR [45] S S2 → (∀ t, t < 271 → S2.1 45 t = S.1 45 t + nI (m * Fq (kS T t) b (lst s r p) x)) → Q S2) → w_X5_spread d S (nI b) (nI s) (nI m) (nI p) (nI x) Q := by
  have hT : T 0 ≤ 6 ∧ T 1 ≤ 3 := ⟨hR.1.1, hR.1.2.1⟩
  intro r
  induction r with
  | zero =>
    intro d p x S Q hp hd hx hL h
    obtain ⟨d, rfl⟩ : ∃ e, d = e + 1 := ⟨d - 1, by omega⟩
    rw [w_X5_spread]
    refine pk_lt p (T 1) (fun q => absurd q (by omega)) (fun _ => ?_) rfl hL.1.2.1
    refine within_in 0 270 x (by omega) (by omega) (br_f (by decide) ⟨vin (by omega), vin (by omega), ?_⟩)
    rintro _ rfl
    rw [nI_clamp (by omega)]
    refine h _ (FR.set FR.rf (by decide)) (fun t ht => ?_)
    show upd (S.1 45) x (S.1 45 x + nI m) t = S.1 45 t + nI (m * (if x = t then 1 else 0))
    by_cases c : t = x
    · subst c
      rw [pk_us, if_pos rfl, Nat.mul_one]
    · rw [pk_un c, if_neg (fun q => c q.symm), Nat.mul_zero]
      show S.1 45 t = S.1 45 t + 0
      rw [Int32.add_zero]
  | succ r ih =>
    intro d p x S Q hp hd hx hL h
    obtain ⟨d, rfl⟩ : ∃ e, d = e + 1 := ⟨d - 1, by omega⟩
    rw [w_X5_spread]
    refine pk_lt p (T 1) (fun _ => ?_) (fun q => absurd q (by omega)) rfl hL.1.2.1
    rw [lst] at h
    refine isIn_ok hs (by omega) (fun a => nb_t (by decide) ?_) (fun a => nb_f rfl ?_)
    · rw [if_pos a] at h
      refine ⟨11, spread_loop (Z := Z) hT hb (by omega) (lst s r (p + 1)) (fun w S1 Q1 hw hL1 hq => ?_) 10 0 S (by omega) hL (fun S2 f a2 => h S2 f (fun t ht => ?_))⟩
      · have hl := lvN_le hR (b := b) (show p < T 1 by omega) hw
        exact ih d (p + 1) _ S1 Q1 (by omega) (by omega) (by omega) hL1 hq
      · have e := a2 t ht
        rw [sm, Nat.mul_zero] at e
        have e2 : S2.1 45 t = S2.1 45 t + nI 0 := (Int32.add_zero _).symm
        rw [e2, e]
        rfl
    · rw [if_neg a] at h
      rw [nI_1]
      exact ih d (p + 1) x S _ (by omega) (by omega) (by omega) hL h
/-- how many ways would leave t on a bar -/
def LWs (T Z : Nat → Nat) (b t s : Nat) : Nat := WB T Z (off allT b) s * Fq (kS T t) b (ls (T 1) s) 0
theorem lw_loop {T X Z : Nat → Nat} {b : Nat} (hb : b < T 0) {kx : St → Prop} : ∀ (j i : Nat) (S : St), i + j = 2 ^ T 1 → RAIL S T → LEARN S T Z → GATH S T Z (off allT b) (T 0) → (∀ t, t < 271 → S.1 45 t = nI (sm (LWs T Z b t) i)) → (∀ S2 : St, FR [45] S S2 → (∀ t, t < 271 → S2.1 45 t = nI (sm (LWs T Z b t) (2 ^ T 1))) → kx S2) → X5_leftAtWorst_L15 (nI b) kx (j + 1) S (nI i)
  | 0, i, S, hi, hR, hL, hG, ha, h => by
    have hT : T 0 ≤ 6 ∧ T 1 ≤ 3 := ⟨hR.1.1, hR.1.2.1⟩
    have hp8 := pow_le8 (T 1) hT.2
    have e1 : (1 : Int32) <<< (S.1 3901 0 &&& 31) = nI (2 ^ T 1) := by
      rw [hL.1.2.1]
      exact sh_bits _ hT.2
    obtain rfl : i = 2 ^ T 1 := by omega
    rw [X5_leftAtWorst_L15]
    exact pk_le (2 ^ T 1) (2 ^ T 1) (fun _ => h S FR.rf ha) (fun c => absurd c (by omega)) e1 rfl
  | j + 1, i, S, hi, hR, hL, hG, ha, h => by
    have hT : T 0 ≤ 6 ∧ T 1 ≤ 3 := ⟨hR.1.1, hR.1.2.1⟩
    have hp8 := pow_le8 (T 1) hT.2
    have e1 : (1 : Int32) <<< (S.1 3901 0 &&& 31) = nI (2 ^ T 1) := by
      rw [hL.1.2.1]
      exact sh_bits _ hT.2
    rw [X5_leftAtWorst_L15]
    refine pk_le (2 ^ T 1) i (fun c => absurd c (by omega)) (fun _ => ?_) e1 rfl
    refine waysBeside_ok hT hL hG (by omega) ?_
    refine spread_ok (X := X) (Z := Z) hR hb (show i < 8 by omega) (T 1) 8 0 0 S _ (by omega) (by omega) (by omega) hL (fun S2 f a => ?_)
    rintro _ rfl
    rw [nI_1]
    refine lw_loop (X := X) hb j (i + 1) S2 (by omega) (hR.fr f) (hL.fr f) (fun v hv => ?_) (fun t ht => ?_) (fun S3 f3 a3 => h S3 (f.tr f3) a3)
    · rw [f.1 44 (by decide)]
      exact hG v hv
    · rw [a t ht, ha t ht, nI_add]
      rfl
def mxN (f : Nat → Nat) : Nat → Nat
  | 0 => 0
  | n + 1 => if mxN f n < f n then f n else mxN f n
theorem mxN_le {f : Nat → Nat} {c : Nat} : ∀ {n : Nat}, (∀ k, k < n → f k ≤ c) → mxN f n ≤ c
  | 0, _ => Nat.zero_le _
  | n + 1, h => by
    rw [mxN]
    split
    · exact h n (by omega)
    · exact mxN_le (fun k hk => h k (by omega))
theorem mx_loop {S : St} {f : Nat → Nat} (hf : ∀ t, t < 271 → S.1 45 t = nI (f t) ∧ f t < 2 ^ 31) {kx : Int32 → Prop} (h : kx (nI (mxN f 271))) : ∀ (j i : Nat), i + j = 271 → X5_leftAtWorst_L48 S kx (j + 1) (nI (mxN f i)) (nI i)
  | 0, i, hi => by
    obtain rfl : i = 271 := by omega
    rw [X5_leftAtWorst_L48]
    exact pk_lt 270 271 (fun _ => h) (fun c => absurd c (by omega)) rfl rfl
  | j + 1, i, hi => by
    have hm : mxN f i < 2 ^ 31 := by
      have := mxN_le (f := f) (c := 2 ^ 31 - 1) (n := i) (fun k hk => by have := (hf k (by omega)).2; omega)
      omega
    have hfi := (hf i (by omega))
    rw [X5_leftAtWorst_L48]
    refine pk_lt 270 i (fun c => absurd c (by omega)) (fun _ => ⟨vin (by omega), ?_⟩) rfl rfl
    rw [nI_clamp (by omega), hfi.1]
    rintro _ rfl _ rfl
    have e : (if nI (mxN f i) < nI (f i) then nI (f i) else nI (mxN f i)) = nI (mxN f (i + 1)) := by
      rw [mxN]
      by_cases c : mxN f i < f i
      · rw [if_pos c, if_pos]
        rw [Int32.lt_iff_toInt_lt, nI_toInt hm, nI_toInt hfi.2]
        omega
      · rw [if_neg c, if_neg]
        rw [Int32.lt_iff_toInt_lt, nI_toInt hm, nI_toInt hfi.2]
        omega
    rw [e, nI_1]
    exact mx_loop hf h j (i + 1) (by omega)
def LW (T Z : Nat → Nat) (b : Nat) : Nat := mxN (fun t => sm (LWs T Z b t) (2 ^ T 1)) 271
theorem LWs_le {T Z : Nat → Nat} (hT : T 0 ≤ 6 ∧ T 1 ≤ 3) (b t : Nat) : sm (LWs T Z b t) (2 ^ T 1) < 2 ^ 31 := by
  have hp8 := pow_le8 (T 1) hT.2
  have := sm_le (f := LWs T Z b t) (c := 226981000) (n := 2 ^ T 1) (fun s hs => by
    unfold LWs
    have h1 := WB_le (Z := Z) hT (off allT b) s
    have h2 : Fq (kS T t) b (ls (T 1) s) 0 ≤ 1000 := by
      refine Nat.le_trans (Fq_le (k := kS T t) (fun _ x => by show (if x = t then 1 else 0) ≤ 1; split <;> omega) (fun _ _ _ => Nat.le_refl 1) b _ 0) ?_
      calc 10 ^ (ls (T 1) s).length ≤ 10 ^ 3 := Nat.pow_le_pow_right (by omega) (ls_len _ hT.2 s (by omega))
        _ = 1000 := rfl
    calc WB T Z (off allT b) s * Fq (kS T t) b (ls (T 1) s) 0 ≤ 226981 * 1000 := Nat.mul_le_mul h1 h2
      _ = 226981000 := rfl)
  have h3 : 2 ^ T 1 * 226981000 ≤ 8 * 226981000 := Nat.mul_le_mul hp8.1 (Nat.le_refl _)
  omega
theorem leftAtWorst_ok {S : St} {T X Z : Nat → Nat} (hR : RAIL S T) (hL : LEARN S T Z) {b : Nat} (hb : b < T 0) {Q : Int32 → St → Prop} (h : ∀ S2 : St, FR [44, 45] S S2 → LEARN S2 T Z → Q (nI (LW T Z b)) S2) : w_X5_leftAtWorst S (nI b) Q := by
  have hT : T 0 ≤ 6 ∧ T 1 ≤ 3 := ⟨hR.1.1, hR.1.2.1⟩
  have hp8 := pow_le8 (T 1) hT.2
  unfold w_X5_leftAtWorst
  refine gather_ok (off allT b) hT hL (neb (by omega)) (fun S1 f g => ?_)
  rintro _ rfl
  have hF : FR [44, 45] S (setA S1 45 (fun _ => 0)) := FR.set (f.mono (by decide)) (by decide)
  refine ⟨2 ^ T 1 + 1, lw_loop (X := X) hb (2 ^ T 1) 0 _ (by omega) (hR.fr hF) (hL.fr hF) g (fun t ht => rfl) (fun S2 f2 a => ⟨272, mx_loop (f := fun t => sm (LWs T Z b t) (2 ^ T 1)) (fun t ht => ⟨a t ht, LWs_le hT b t⟩) (h S2 (hF.tr (f2.mono (by decide))) (hL.fr (hF.tr (f2.mono (by decide))))) 271 0 (by omega)⟩)⟩
