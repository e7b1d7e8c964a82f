/-! The class's Ways: what it learns. -/
def okN (Z : Nat → Nat) (b c : Nat) : Nat := if Z b = 0 ∨ Z b = c + 1 then 1 else 0
def lvN (T : Nat → Nat) (p b w : Nat) : Nat := T (10 + p) * dryN T b 0 (w + 1)
def wkN (T Z : Nat → Nat) : WK := (okN Z, lvN T, fun _ => 1, fun _ _ _ => 1)
def bsN (T : Nat → Nat) (b : Nat) : Nat := plainN T b 10
theorem dryN_le (T : Nat → Nat) (b f n : Nat) : dryN T b f n ≤ n := by
  have := sm_le (f := fun i => dry1 T b (f + i)) (c := 1) (n := n) (fun k _ => by
    show dry1 T b (f + k) ≤ 1
    unfold dry1
    split <;> omega)
  rw [Nat.mul_one] at this
  exact this
theorem lvN_le {S : St} {T : Nat → Nat} (hR : RAIL S T) {p b w : Nat} (hp : p < T 1) (hw : w < 10) : lvN T p b w ≤ 90 := by
  have h1 := (hR.2.2.2.2.1 p hp).2.2
  have h2 := dryN_le T b 0 (w + 1)
  unfold lvN
  calc T (10 + p) * dryN T b 0 (w + 1) ≤ 9 * 10 := Nat.mul_le_mul h1 (by omega)
    _ = 90 := rfl
theorem plainN_le {S : St} {T : Nat → Nat} (hR : RAIL S T) {b n : Nat} (hb : b < T 0) (hn : n ≤ 10) : plainN T b n ≤ 90 := by
  have h1 := (hR.2.2.2.1 b hb).2.2
  have := sm_le (f := fun k => if cov T b k = true then 0 else T (13 + k) * T (4 + b)) (c := 9) (n := n) (fun k hk => by
    have h2 := (hR.2.2.2.2.2.1 k (by omega)).2
    show (if cov T b k = true then 0 else T (13 + k) * T (4 + b)) ≤ 9
    split
    · omega
    · calc T (13 + k) * T (4 + b) ≤ 3 * 3 := Nat.mul_le_mul h2 h1
        _ = 9 := rfl)
  have h3 : n * 9 ≤ 90 := by omega
  exact Nat.le_trans this h3
theorem sub_nn (z x y : Nat) : nI z - nI x - nI y = nI z - nI (x + y) := by
  rw [← nI_add]
  simp [Int32.sub_eq_add_neg, Int32.neg_add, Int32.add_assoc]
theorem sub_lt0 {z x : Nat} (hz : z < 2 ^ 30) (hx : x < 2 ^ 30) (h : z < x) : (nI z - nI x).toInt = (z : Int) - x := by
  rw [Int32.toInt_sub, nI_toInt (by omega), nI_toInt (by omega)]
  apply Int.bmod_eq_of_le <;> omega
theorem sub_ge {z x : Nat} (hz : z < 2 ^ 30) (hx : x < 2 ^ 30) {A B : Prop} (a : x ≤ z → A) (b : z < x → B) : (0 ≤ nI z - nI x → A) ∧ (¬ 0 ≤ nI z - nI x → B) := by
  by_cases c : x ≤ z
  · rw [pk_sub c]
    exact br_t (ge0_nI _ (by omega)) (a c)
  · refine br_f ?_ (b (by omega))
    rw [Int32.le_iff_toInt_le, sub_lt0 hz hx (by omega)]
    have : (0 : Int32).toInt = 0 := rfl
    omega
theorem isIn_ok {s p : Nat} (hs : s < 8) (hp : p < 3) {Q : Int32 → Prop} (a : s.testBit p = true → Q 1) (b : ¬ s.testBit p = true → Q 0) : w_X5_isIn (nI s) (nI p) Q := by
  unfold w_X5_isIn
  by_cases c : s.testBit p = true
  · exact nb_f ((in_bits s hs p hp).mpr c) (a c)
  · exact nb_t (fun q => c ((in_bits s hs p hp).mp q)) (b c)
/-- what Ways knows of all, of a bar -/
def LRg (S : St) (T : Nat → Nat) : Prop := S.1 3900 0 = nI (T 0) ∧ S.1 3901 0 = nI (T 1) ∧ ∀ p, p < T 1 → S.1 41 p = nI (T (10 + p))
def LRd (S : St) (T : Nat → Nat) (b : Nat) : Prop := ∀ w, 1 ≤ w → w ≤ 10 → S.1 42 (b * 11 + w) = nI (dryN T b 0 w)
def LRs (S : St) (Z : Nat → Nat) (b : Nat) : Prop := S.1 39 b = if Z b = 0 then 0 else 1
theorem nI_muladd (b k w : Nat) : nI b * nI k + nI w = nI (b * k + w) := by rw [pk_mul, nI_add]
theorem leaves_ok {S : St} {T : Nat → Nat} (hT : T 0 ≤ 6 ∧ T 1 ≤ 3) (hG : LRg S T) {b p w : Nat} (hD : LRd S T b) (hb : b < T 0) (hp : p < T 1) (hw1 : 1 ≤ w) (hw : w ≤ 10) {Q : Int32 → Prop} (h : Q (nI (lvN T p b (w - 1)))) : w_X5_leaves S (nI p) (nI b) (nI w) Q := by
  unfold w_X5_leaves
  rw [show (11 : Int32) = nI 11 from rfl, nI_muladd]
  refine ⟨vin (by omega), vin (by omega), ?_⟩
  rw [nI_clamp (by omega), nI_clamp (by omega), hG.2.2 p hp, hD w hw1 hw, pk_mul]
  unfold lvN at h
  rw [show w - 1 + 1 = w by omega] at h
  exact h
theorem Fq_over {T Z : Nat → Nat} {b z : Nat} (hz : Z b = z + 1) : ∀ (L : List Nat) (x : Nat), z < x → Fq (wkN T Z) b L x = 0
  | [], x, h => by
    show okN Z b x = 0
    unfold okN
    rw [if_neg (by omega)]
  | p :: L, x, h => by
    rw [Fq]
    refine sm_zero (fun w _ => ?_)
    rw [Fq_over hz L _ (Nat.lt_of_lt_of_le h (Nat.le_add_right _ _)), Nat.mul_zero]
theorem wF_loop {T Z : Nat → Nat} {S : St} (hT : T 0 ≤ 6 ∧ T 1 ≤ 3) (hG : LRg S T) {b p x z : Nat} {s3 : Int32} (hD : LRd S T b) (hb : b < T 0) (hp : p < T 1) (L : List Nat) {wr : St → Int32 → Int32 → Int32 → Int32 → (Int32 → Prop) → Prop} (hwr : ∀ (w : Nat) (Q : Int32 → Prop), w < 10 → Q (nI (Fq (wkN T Z) b L (x + lvN T p b w))) → wr S (nI b) s3 (nI (p + 1)) (nI z - nI (x + lvN T p b w)) Q) {kx : Int32 → Prop} (h : kx (nI (Fq (wkN T Z) b (p :: L) x))) : ∀ (j i : Nat), i + j = 10 → X5_wintersFrom_L52 wr S (nI b) s3 (nI p) (nI z - nI x) kx (j + 1) (nI (sm (fun w => 1 * Fq (wkN T Z) b L (x + lvN T p b w)) i)) (nI (i + 1))
  | 0, i, hi => by
    obtain rfl : i = 10 := by omega
    rw [X5_wintersFrom_L52]
    exact pk_lt 10 11 (fun _ => h) (fun c => absurd c (by omega)) rfl rfl
  | j + 1, i, hi => by
    rw [X5_wintersFrom_L52]
    refine pk_lt 10 (i + 1) (fun c => absurd c (by omega)) (fun _ => ?_) rfl rfl
    refine leaves_ok hT hG hD hb hp (by omega) (by omega) ?_
    rw [Nat.add_sub_cancel, sub_nn, nI_1]
    refine hwr i _ (by omega) ?_
    rintro _ rfl _ rfl
    rw [nI_add, nI_1]
    have e : sm (fun w => 1 * Fq (wkN T Z) b L (x + lvN T p b w)) i + Fq (wkN T Z) b L (x + lvN T p b i) = sm (fun w => 1 * Fq (wkN T Z) b L (x + lvN T p b w)) (i + 1) := by
      rw [sm, Nat.one_mul]
    rw [e]
    exact wF_loop hT hG hD hb hp L hwr h j (i + 1) (by omega)
theorem wintersFrom_ok {S : St} {T Z : Nat → Nat} (hR : RAIL S T) (hG : LRg S T) {b s z : Nat} (hD : LRd S T b) (hb : b < T 0) (hs : s < 8) (hz : Z b = z + 1) (hz2 : z < 1000) : ∀ (r d p x : Nat) (Q : Int32 → Prop), p + r = T 1 → r < d → x ≤ 180 + 90 * p → Q (nI (Fq (wkN T Z) b (lst s r p) x)) → w_X5_wintersFrom d S (nI b) (nI s) (nI p) (nI z - nI x) Q := by
  have hT : T 0 ≤ 6 ∧ T 1 ≤ 3 := ⟨hR.1.1, hR.1.2.1⟩
  intro r
  induction r with
  | zero =>
    intro d p x Q hp hd hx h
    obtain ⟨d, rfl⟩ : ∃ e, d = e + 1 := ⟨d - 1, by omega⟩
    rw [w_X5_wintersFrom]
    refine sub_ge (by omega) (by omega) (fun c => ?_) (fun c => ?_)
    · refine pk_lt p (T 1) (fun q => absurd q (by omega)) (fun _ => ?_) rfl hG.2.1
      have h' : Q (nI (okN Z b x)) := h
      unfold okN at h'
      rw [pk_sub c]
      refine pk_eqN (z - x) 0 (fun e => ?_) (fun e => ?_)
      · rw [if_neg (by omega)] at h'
        exact h'
      · rw [if_pos (by omega)] at h'
        exact h'
    · rw [Fq_over hz _ _ c] at h
      exact h
  | succ r ih =>
    intro d p x Q hp hd hx h
    obtain ⟨d, rfl⟩ : ∃ e, d = e + 1 := ⟨d - 1, by omega⟩
    rw [w_X5_wintersFrom]
    refine sub_ge (by omega) (by omega) (fun c => ?_) (fun c => ?_)
    · refine pk_lt p (T 1) (fun _ => ?_) (fun q => absurd q (by omega)) rfl hG.2.1
      rw [lst] at h
      refine isIn_ok hs (by omega) (fun a => nb_t (by decide) ?_) (fun a => nb_f rfl ?_)
      · rw [if_pos a] at h
        refine ⟨11, wF_loop hT hG hD hb (by omega) (lst s r (p + 1)) (fun w Q' hw hq => ?_) (kx := fun v => Q v) h 10 0 (by omega)⟩
        have hl := lvN_le hR (b := b) (show p < T 1 by omega) hw
        exact ih d (p + 1) _ Q' (by omega) (by omega) (by omega) hq
      · rw [if_neg a] at h
        rw [nI_1]
        exact ih d (p + 1) x _ (by omega) (by omega) (by omega) h
    · rw [Fq_over hz _ _ c] at h
      exact h
theorem sm_const (v : Nat) : ∀ n, sm (fun _ => v) n = n * v
  | 0 => by rw [sm, Nat.zero_mul]
  | n + 1 => by rw [sm, sm_const v n, Nat.succ_mul]
theorem Fq_free {T Z : Nat → Nat} {b : Nat} (hz : Z b = 0) : ∀ (L : List Nat) (x : Nat), Fq (wkN T Z) b L x = 10 ^ L.length
  | [], x => by
    show okN Z b x = 1
    unfold okN
    rw [if_pos (Or.inl hz)]
  | p :: L, x => by
    rw [Fq, sm_cong (g := fun _ => 10 ^ L.length) (fun w _ => by rw [Fq_free hz L]; exact Nat.one_mul _), sm_const, List.length_cons, Nat.pow_succ, Nat.mul_comm]
theorem wU_loop {S : St} {T : Nat → Nat} (hP : T 1 ≤ 3) (hG : LRg S T) {s : Nat} (hs : s < 8) {kx : Int32 → Prop} : ∀ (r p v : Nat), p + r = T 1 → kx (nI (v * 10 ^ (lst s r p).length)) → X5_winters_L24 S (nI s) kx (r + 1) (nI v) (nI p)
  | 0, p, v, hp, h => by
    rw [X5_winters_L24]
    rw [lst, List.length_nil, Nat.pow_zero, Nat.mul_one] at h
    exact pk_le (T 1) p (fun _ => h) (fun c => absurd c (by omega)) hG.2.1 rfl
  | r + 1, p, v, hp, h => by
    rw [X5_winters_L24]
    rw [lst] at h
    refine pk_le (T 1) p (fun c => absurd c (by omega)) (fun _ => ?_) hG.2.1 rfl
    refine isIn_ok hs (by omega) (fun a => br_f (by decide) ?_) (fun a => br_t rfl ?_)
    · rintro _ rfl _ rfl
      rw [if_pos a, List.length_cons, Nat.pow_succ, Nat.mul_comm (10 ^ _) 10, ← Nat.mul_assoc] at h
      rw [show (10 : Int32) = nI 10 from rfl, pk_mul, nI_1]
      exact wU_loop hP hG hs r (p + 1) (v * 10) (by omega) h
    · rintro _ rfl _ rfl
      rw [if_neg a] at h
      rw [Int32.mul_one, nI_1]
      exact wU_loop hP hG hs r (p + 1) v (by omega) h
theorem winters_ok {S : St} {T Z : Nat → Nat} (hR : RAIL S T) (hG : LRg S T) {b s x : Nat} {need : Int32} (hD : LRd S T b) (hS : LRs S Z b) (hb : b < T 0) (hs : s < 8) (hz : Z b ≤ 1000) (hx : x ≤ 180) (hn : Z b ≠ 0 → need = nI (Z b - 1) - nI x) {Q : Int32 → Prop} (h : Q (nI (Fq (wkN T Z) b (ls (T 1) s) x))) : w_X5_winters S (nI b) (nI s) need Q := by
  have hB := hR.1.1
  unfold w_X5_winters
  refine ⟨vin (by omega), ?_⟩
  rw [nI_clamp (by omega), hS]
  by_cases c : Z b = 0
  · rw [if_pos c]
    refine br_t rfl ⟨T 1 + 1, ?_⟩
    rw [Fq_free c] at h
    refine wU_loop hR.1.2.1 hG hs (T 1) 0 1 (by omega) ?_
    rw [Nat.one_mul]
    exact h
  · rw [if_neg c, hn c]
    exact br_f (by decide) (wintersFrom_ok hR hG hD hb hs (show Z b = Z b - 1 + 1 by omega) (by omega) (T 1) 8 0 x _ (by omega) (by have := hR.1.2.1; omega) (by omega) h)
theorem dryL {S0 : St} {T : Nat → Nat} {b : Nat} (hb : b < T 0) (hB : T 0 ≤ 6) {kx : St → Prop} : ∀ (j w : Nat) (S : St), w + j = 11 → 1 ≤ w → RAIL S T → (∀ S2 : St, FR [42] S S2 → (∀ v, w ≤ v → v ≤ 10 → S2.1 42 (b * 11 + v) = nI (dryN T b 0 v)) → (∀ i, ¬ (b * 11 + w ≤ i ∧ i ≤ b * 11 + 10) → S2.1 42 i = S.1 42 i) → kx S2) → X5_learn_L85 (nI b) kx (j + 1) S (nI w)
  | 0, w, S, hw, h1, hR, h => by
    rw [X5_learn_L85]
    exact pk_lt 10 w (fun _ => h S FR.rf (fun v a c => absurd c (by omega)) (fun i _ => rfl)) (fun c => absurd c (by omega)) rfl rfl
  | j + 1, w, S, hw, h1, hR, h => by
    rw [X5_learn_L85]
    refine pk_lt 10 w (fun c => absurd c (by omega)) (fun _ => ?_) rfl rfl
    rw [nI_m1 _ (by omega)]
    refine dryYears_ok (f := 0) (y := w - 1) hR hb (by omega) (by omega) ?_
    rw [show (11 : Int32) = nI 11 from rfl, nI_muladd]
    refine ⟨vin (by omega), ?_⟩
    rintro _ rfl _ rfl
    rw [nI_clamp (by omega), nI_1]
    have hF : FR [42] S (setA S 42 (upd (S.1 42) (b * 11 + w) (nI (dryN T b 0 (w - 1 + 1 - 0))))) := FR.set FR.rf (by decide)
    refine dryL (S0 := S0) hb hB j (w + 1) _ (by omega) (by omega) (hR.fr hF) (fun S2 hF2 a c => h S2 (hF.tr hF2) (fun v v1 v2 => ?_) (fun i hi => ?_))
    · by_cases d : v = w
      · subst d
        rw [c (b * 11 + v) (by omega)]
        show upd (S.1 42) (b * 11 + v) _ (b * 11 + v) = _
        rw [pk_us, show v - 1 + 1 - 0 = v by omega]
      · exact a v (by omega) v2
    · rw [c i (by omega)]
      exact pk_un (by omega)
theorem fitL {T Z : Nat → Nat} {b : Nat} {need : Int32} (hb : b < T 0) (hz : Z b ≤ 1000) (hn : Z b ≠ 0 → need = nI (Z b - 1) - nI (bsN T b)) {kx : St → Prop} : ∀ (j s : Nat) (S : St), s + j = 2 ^ T 1 → RAIL S T → LRg S T → LRd S T b → LRs S Z b → S.1 40 b = need → (∀ S2 : St, FR [43] S S2 → (∀ v, s ≤ v → v < 2 ^ T 1 → S2.1 43 (b * 8 + v) = nI (Fq (wkN T Z) b (ls (T 1) v) (bsN T b))) → (∀ i, ¬ (b * 8 + s ≤ i ∧ i < b * 8 + 2 ^ T 1) → S2.1 43 i = S.1 43 i) → kx S2) → X5_learn_L123 (nI b) kx (j + 1) S (nI s)
  | 0, s, S, hs, hR, hG, hD, hS, h40, h => by
    have hp := pow_le8 (T 1) hR.1.2.1
    have e1 : (1 : Int32) <<< (S.1 3901 0 &&& 31) = nI (2 ^ T 1) := by
      rw [hG.2.1]
      exact sh_bits _ hR.1.2.1
    rw [X5_learn_L123]
    exact pk_le (2 ^ T 1) s (fun _ => h S FR.rf (fun v a c => absurd c (by omega)) (fun i _ => rfl)) (fun c => absurd c (by omega)) e1 rfl
  | j + 1, s, S, hs, hR, hG, hD, hS, h40, h => by
    have hp := pow_le8 (T 1) hR.1.2.1
    have hB := hR.1.1
    have e1 : (1 : Int32) <<< (S.1 3901 0 &&& 31) = nI (2 ^ T 1) := by
      rw [hG.2.1]
      exact sh_bits _ hR.1.2.1
    rw [X5_learn_L123]
    refine pk_le (2 ^ T 1) s (fun c => absurd c (by omega)) (fun _ => ⟨vin (by omega), ?_⟩) e1 rfl
    rw [nI_clamp (by omega), h40]
    refine winters_ok hR hG hD hS hb (by omega) hz (x := bsN T b) (by have := plainN_le hR hb (Nat.le_refl 10); unfold bsN; omega) hn ?_
    rw [show (8 : Int32) = nI 8 from rfl, nI_muladd]
    refine ⟨vin (by omega), ?_⟩
    rintro _ rfl _ rfl
    rw [nI_clamp (by omega), nI_1]
    have hF : FR [43] S (setA S 43 (upd (S.1 43) (b * 8 + s) (nI (Fq (wkN T Z) b (ls (T 1) s) (bsN T b))))) := FR.set FR.rf (by decide)
    refine fitL hb hz hn j (s + 1) _ (by omega) (hR.fr hF) hG hD hS h40 (fun S2 hF2 a c => h S2 (hF.tr hF2) (fun v v1 v2 => ?_) (fun i hi => ?_))
    · by_cases d : v = s
      · subst d
        rw [c (b * 8 + v) (by omega)]
        show upd (S.1 43) (b * 8 + v) _ (b * 8 + v) = _
        rw [pk_us]
      · exact a v (by omega) v2
    · rw [c i (by omega)]
      exact pk_un (by omega)
/-- what Ways knows of a bar, all of it -/
def LRb (S : St) (T Z : Nat → Nat) (b : Nat) : Prop := LRs S Z b ∧ LRd S T b ∧ (Z b ≠ 0 → S.1 40 b = nI (Z b - 1) - nI (bsN T b)) ∧ ∀ v, v < 2 ^ T 1 → S.1 43 (b * 8 + v) = nI (Fq (wkN T Z) b (ls (T 1) v) (bsN T b))
def LEARN (S : St) (T Z : Nat → Nat) : Prop := LRg S T ∧ ∀ b, b < T 0 → LRb S T Z b
theorem LEARN.fr {L : List Nat} {S S2 : St} {T Z : Nat → Nat} (h : LEARN S T Z) (hF : FR L S S2) (hL : ∀ c, c ∈ [3900, 3901, 39, 40, 41, 42, 43] → c ∉ L := by decide) : LEARN S2 T Z := by
  unfold LEARN LRb LRs LRd LRg at h ⊢
  rw [hF.1 3900 (hL _ (by decide)), hF.1 3901 (hL _ (by decide)), hF.1 39 (hL _ (by decide)), hF.1 40 (hL _ (by decide)), hF.1 41 (hL _ (by decide)), hF.1 42 (hL _ (by decide)), hF.1 43 (hL _ (by decide))]
  exact h
theorem narB : vp_nar .boolean 0 = 0 ∧ vp_nar .boolean 1 = 1 := by decide
theorem learn_loop {T X Z : Nat → Nat} {kx : St → Prop} : ∀ (j b : Nat) (S : St), b + j = T 0 → RAIL S T → NOW S T X Z → LRg S T → (∀ i, i < b → LRb S T Z i) → (∀ S2 : St, FR [39, 40, 42, 43] S S2 → LEARN S2 T Z → kx S2) → X5_learn_L32 kx (j + 1) S (nI b)
  | 0, b, S, hb, hR, hW, hG, hI, h => by
    have hB := hR.1.1
    rw [X5_learn_L32]
    exact pk_le (T 0) b (fun _ => h S FR.rf ⟨hG, fun i hi => hI i (by omega)⟩) (fun c => absurd c (by omega)) hG.1 rfl
  | j + 1, b, S, hb, hR, hW, hG, hI, h => by
    have hB := hR.1.1
    have hp := pow_le8 (T 1) hR.1.2.1
    have hbT : b < T 0 := by omega
    have hWz := hW
    obtain ⟨x12, ec, hs, he, hv, hz, hz2⟩ := hWz
    obtain ⟨z1, z2, z3⟩ := hz b (by omega)
    rw [X5_learn_L32]
    refine pk_le (T 0) b (fun c => absurd c (by omega)) (fun _ => ⟨vin (by omega), nm_e ?_⟩) hG.1 rfl
    have go : ∀ x : Int32, vp_nar .boolean x = (if Z b = 0 then 0 else 1) → (vp_in (nI b) 6 ∧ ∀ S8 : St, S8 = setA S 39 (upd (S.1 39) (nI b).toNatClampNeg (vp_nar .boolean x)) → (vp_in (nI b) 6 ∧ (w_X2_weather S8 (nI b) 9 (fun r9 => (vp_in (nI b) 6 ∧ ∀ S10 : St, S10 = setA S8 40 (upd (S8.1 40) (nI b).toNatClampNeg ((S8.1 23 (nI b).toNatClampNeg) - r9)) → (∃ n : Nat, X5_learn_L85 (nI b) (fun (S18 : St) => (∃ n : Nat, X5_learn_L123 (nI b) (fun (S26 : St) => ∀ x27 : Int32, x27 = nI b + 1 → X5_learn_L32 kx (j + 1) S26 x27) n S18 0)) n S10 1)))))) := by
      intro x hx
      refine ⟨vin (by omega), ?_⟩
      rw [hx, nI_clamp (by omega)]
      rintro S8 h8
      have hF8 : FR [39] S S8 := by rw [h8]; exact FR.set FR.rf (by decide)
      refine ⟨vin (by omega), weather_ok (y := 9) (hR.fr hF8) hbT (by omega) ⟨vin (by omega), ?_⟩⟩
      rintro S10 h10
      have hF10 : FR [39, 40] S S10 := by rw [h10]; exact FR.set (hF8.mono (by decide)) (by decide)
      have e39 : S10.1 39 = upd (S.1 39) b (if Z b = 0 then 0 else 1) := by rw [h10, h8]; rfl
      have e40 : S10.1 40 = upd (S.1 40) b (enc (Z b) - nI (bsN T b)) := by
        rw [h10, h8]
        show upd (S.1 40) b (S.1 23 b - nI (plainN T b (9 + 1))) = _
        rw [z1]
        rfl
      refine ⟨11, dryL (S0 := S) hbT hB 10 1 S10 (by omega) (by omega) (hR.fr hF10) (fun S18 hF18 a18 c18 => ?_)⟩
      have hF18' : FR [39, 40, 42] S S18 := (hF10.mono (by decide)).tr (hF18.mono (by decide))
      have g39 : S18.1 39 = upd (S.1 39) b (if Z b = 0 then 0 else 1) := (hF18.1 39 (by decide)).trans e39
      have g40 : S18.1 40 = upd (S.1 40) b (enc (Z b) - nI (bsN T b)) := (hF18.1 40 (by decide)).trans e40
      have hG18 : LRg S18 T := by
        unfold LRg at hG ⊢
        rw [hF18'.1 3900 (by decide), hF18'.1 3901 (by decide), hF18'.1 41 (by decide)]
        exact hG
      have hD18 : LRd S18 T b := fun w h1 h2 => a18 w h1 h2
      have hS18 : LRs S18 Z b := by
        unfold LRs
        rw [g39, pk_us]
      have hn : Z b ≠ 0 → enc (Z b) - nI (bsN T b) = nI (Z b - 1) - nI (bsN T b) := fun q => by
        unfold enc
        rw [if_neg q]
      refine ⟨2 ^ T 1 + 1, fitL hbT z3 hn (2 ^ T 1) 0 S18 (by omega) (hR.fr hF18') hG18 hD18 hS18 (by rw [g40, pk_us]) (fun S26 hF26 a26 c26 => ?_)⟩
      rintro _ rfl
      rw [nI_1]
      have hFF : FR [39, 40, 42, 43] S S26 := (hF18'.mono (by decide)).tr (hF26.mono (by decide))
      have k39 : S26.1 39 = upd (S.1 39) b (if Z b = 0 then 0 else 1) := (hF26.1 39 (by decide)).trans g39
      have k40 : S26.1 40 = upd (S.1 40) b (enc (Z b) - nI (bsN T b)) := (hF26.1 40 (by decide)).trans g40
      have k42 : S26.1 42 = S18.1 42 := hF26.1 42 (by decide)
      have hG26 : LRg S26 T := by
        unfold LRg at hG ⊢
        rw [hFF.1 3900 (by decide), hFF.1 3901 (by decide), hFF.1 41 (by decide)]
        exact hG
      refine learn_loop j (b + 1) S26 (by omega) (hR.fr hFF) (hW.fr hFF) hG26 (fun i hi => ?_) (fun S2 f2 l2 => h S2 (hFF.tr f2) l2)
      by_cases d : i = b
      · subst d
        refine ⟨?_, fun w h1 h2 => ?_, fun q => ?_, fun v hv => a26 v (by omega) hv⟩
        · unfold LRs
          rw [k39, pk_us]
        · rw [k42]
          exact a18 w h1 h2
        · rw [k40, pk_us]
          exact hn q
      · obtain ⟨i1, i2, i3, i4⟩ := hI i (by omega)
        refine ⟨?_, fun w h1 h2 => ?_, fun q => ?_, fun v hv => ?_⟩
        · unfold LRs at i1 ⊢
          rw [k39, pk_un d]
          exact i1
        · rw [k42, c18 _ (by omega), hF10.1 42 (by decide)]
          exact i2 w h1 h2
        · rw [k40, pk_un d]
          exact i3 q
        · rw [c26 _ (by omega), hF18'.1 43 (by decide)]
          exact i4 v hv
    have z1' : S.1 23 (nI b).toNatClampNeg = enc (Z b) := by
      rw [nI_clamp (by omega)]
      exact z1
    by_cases c : Z b = 0
    · refine br_t (by rw [z1']; exact (enc_9 z3).mpr c) (go 0 ?_)
      rw [if_pos c]
      exact narB.1
    · refine br_f (fun q => c ((enc_9 z3).mp (z1'.symm.trans q))) (go 1 ?_)
      rw [if_neg c]
      exact narB.2
theorem learn_ok {S : St} {T X Z : Nat → Nat} (hR : RAIL S T) (hW : NOW S T X Z) {Q : St → Prop} (h : ∀ S2 : St, FR scr S S2 → LEARN S2 T Z → Q S2) : w_X5_learn S Q := by
  have hR' := hR
  obtain ⟨⟨hB, hP, hN⟩, ⟨e0, e1, e2⟩, -, -, hg, -⟩ := hR'
  unfold w_X5_learn
  rintro _ rfl _ rfl _ rfl
  have hF : FR scr S (setA (setI (setI S 3900 (S.1 1200 0)) 3901 (S.1 1201 0)) 41 (S.1 13)) := FR.set (FR.set (FR.set FR.rf (by decide)) (by decide)) (by decide)
  refine ⟨T 0 + 1, learn_loop (T := T) (X := X) (Z := Z) (T 0) 0 _ (by omega) (hR.fr hF) (hW.fr hF) ⟨e0, e1, fun p hp => (hg p hp).1⟩ (fun i hi => absurd hi (Nat.not_lt_zero i)) (fun S2 f l => h S2 (hF.tr (f.mono (by decide))) l)⟩
