/-! sure. -/
def bcI (T : Nat → Nat) (p way : Nat) : Int32 := if fig T way p = 0 then -4 else nI ((fig T way p - 1) / 10)
theorem barOf_ok {T : Nat → Nat} (hT : T 0 ≤ 6) (p way : Nat) {Q : Int32 → Prop} (h : Q (bcI T p way)) : w_X7_barOf (nI (fig T way p)) Q := by
  have hf := fig_lt (T := T) way p
  unfold w_X7_barOf
  unfold bcI at h
  have hD : DD T ≤ 61 := by unfold DD; omega
  generalize fig T way p = f at *
  refine pk_eqN f 0 (fun c => ⟨by decide, ?_⟩) (fun c => ?_)
  · rw [if_neg c] at h
    rw [nI_m1 _ (by omega), show (10 : Int32) = nI 10 from rfl, nI_div (by omega) (by omega)]
    exact h
  · rw [if_pos c] at h
    exact h
theorem bcI_lt {T : Nat → Nat} (p way : Nat) (h : fig T way p ≠ 0) : (fig T way p - 1) / 10 < T 0 := by
  have hf := fig_lt (T := T) way p
  unfold DD at hf
  omega
theorem bcI_ne {T : Nat → Nat} (hT : T 0 ≤ 6) (p way : Nat) : bcI T p way ≠ -9 ∧ bcI T p way ≠ -5 := by
  unfold bcI
  by_cases c : fig T way p = 0
  · rw [if_pos c]
    decide
  · rw [if_neg c]
    have hb := bcI_lt p way c
    refine ⟨ne9 (by omega), fun q => ?_⟩
    have q2 := congrArg Int32.toInt q
    rw [nI_toInt (by omega)] at q2
    have : (-5 : Int32).toInt = -5 := by decide
    omega
def svI (T Z : Nat → Nat) (p : Nat) : Nat → Int32
  | 0 => -9
  | i + 1 => if good T Z i = 0 then svI T Z p i else if svI T Z p i = -9 then bcI T p i else if svI T Z p i = bcI T p i then bcI T p i else -5
/-- what is found so far is what the good ways so far share -/
def SV (T Z : Nat → Nat) (p i : Nat) (v : Int32) : Prop := (v = -9 ∧ ∀ k, k < i → good T Z k = 0) ∨ ((∃ k, k < i ∧ good T Z k ≠ 0 ∧ v = bcI T p k) ∧ ∀ k, k < i → good T Z k ≠ 0 → bcI T p k = v) ∨ (v = -5 ∧ ∃ k l, k < i ∧ l < i ∧ good T Z k ≠ 0 ∧ good T Z l ≠ 0 ∧ bcI T p k ≠ bcI T p l)
theorem SV_step {T Z : Nat → Nat} (hT : T 0 ≤ 6) (p : Nat) : ∀ i, SV T Z p i (svI T Z p i)
  | 0 => Or.inl ⟨rfl, fun k hk => absurd hk (Nat.not_lt_zero k)⟩
  | i + 1 => by
    have ih := SV_step (Z := Z) hT p i
    have hn := bcI_ne hT p i
    rw [svI]
    by_cases g : good T Z i = 0
    · rw [if_pos g]
      rcases ih with ⟨a, b⟩ | ⟨⟨k, k1, k2, k3⟩, b⟩ | ⟨a, k, l, k1, k2, k3, k4, k5⟩
      · refine Or.inl ⟨a, fun k hk => ?_⟩
        by_cases c : k = i
        · rw [c]
          exact g
        · exact b k (by omega)
      · refine Or.inr (Or.inl ⟨⟨k, by omega, k2, k3⟩, fun m hm hg => ?_⟩)
        by_cases c : m = i
        · rw [c] at hg
          exact absurd g hg
        · exact b m (by omega) hg
      · exact Or.inr (Or.inr ⟨a, k, l, by omega, by omega, k3, k4, k5⟩)
    · rw [if_neg g]
      rcases ih with ⟨a, b⟩ | ⟨⟨k, k1, k2, k3⟩, b⟩ | ⟨a, k, l, k1, k2, k3, k4, k5⟩
      · rw [if_pos a]
        refine Or.inr (Or.inl ⟨⟨i, by omega, g, rfl⟩, fun m hm hg => ?_⟩)
        by_cases c : m = i
        · rw [c]
        · exact absurd (b m (by omega)) hg
      · have n9 : svI T Z p i ≠ -9 := by
          rw [k3]
          exact (bcI_ne hT p k).1
        rw [if_neg n9]
        by_cases c : svI T Z p i = bcI T p i
        · rw [if_pos c]
          refine Or.inr (Or.inl ⟨⟨i, by omega, g, rfl⟩, fun m hm hg => ?_⟩)
          by_cases d : m = i
          · rw [d]
          · rw [← c]
            exact b m (by omega) hg
        · rw [if_neg c]
          refine Or.inr (Or.inr ⟨rfl, k, i, by omega, by omega, k2, g, fun z => c (k3.trans z)⟩)
      · have n9 : svI T Z p i ≠ -9 := by
          rw [a]
          decide
        have n5 : svI T Z p i ≠ bcI T p i := by
          rw [a]
          exact fun z => hn.2 z.symm
        rw [if_neg n9, if_neg n5]
        exact Or.inr (Or.inr ⟨rfl, k, l, by omega, by omega, k3, k4, k5⟩)
theorem sure_loop {T X Z : Nat → Nat} {p : Nat} (hp : p < 3) {kx : St → Int32 → Prop} : ∀ (j i : Nat) (S : St), i + j = DD T ^ T 1 → RAIL S T → NOW S T X Z → LAYS S T → (∀ S2 : St, FR [58] S S2 → kx S2 (svI T Z p (DD T ^ T 1))) → X7_sure_L19 (nI p) kx (j + 1) S (svI T Z p i) (nI i)
  | 0, i, S, hi, hR, hW, hL, h => by
    have hD := DD_le (T := T) ⟨hR.1.1, hR.1.2.1⟩
    obtain rfl : i = DD T ^ T 1 := by omega
    rw [X7_sure_L19]
    exact pk_le (DD T ^ T 1) (DD T ^ T 1) (fun _ => h S FR.rf) (fun c => absurd c (by omega)) hL.2.2 rfl
  | j + 1, i, S, hi, hR, hW, hL, h => by
    have hD := DD_le (T := T) ⟨hR.1.1, hR.1.2.1⟩
    rw [X7_sure_L19]
    refine pk_le (DD T ^ T 1) i (fun c => absurd c (by omega)) (fun _ => isWay_ok hR hW hL (by omega) (fun S2 f _ => ?_)) hL.2.2 rfl
    have ih := sure_loop hp j (i + 1) S2 (by omega) (hR.fr f) (hW.fr f) (hL.fr f) (fun S3 f3 => h S3 (f.tr f3))
    rw [svI] at ih
    have hg := good_le T Z i
    refine pk_eq (good T Z i) 0 (fun c => ?_) (fun c => ?_) rfl rfl
    · rintro _ rfl
      rw [if_pos c] at ih
      rw [nI_1]
      exact ih
    · rw [if_neg c] at ih
      refine figureOf_ok (hR.fr f) (by omega) hp (barOf_ok hR.1.1 p i ?_)
      by_cases d : svI T Z p i = -9
      · rw [if_pos d] at ih
        refine br_t d ?_
        rintro _ rfl
        rw [nI_1]
        exact ih
      · rw [if_neg d] at ih
        refine br_f d ?_
        by_cases d2 : svI T Z p i = bcI T p i
        · rw [if_pos d2] at ih
          refine nb_f d2 ?_
          rintro _ rfl
          rw [nI_1]
          exact ih
        · rw [if_neg d2] at ih
          refine nb_t d2 ?_
          rintro _ rfl
          rw [nI_1]
          exact ih
theorem sm_all {f g : Nat → Nat} : ∀ {n : Nat}, (∀ k, k < n → f k ≤ g k) → sm f n = sm g n → ∀ k, k < n → f k = g k
  | 0, _, _, k, hk => absurd hk (Nat.not_lt_zero k)
  | n + 1, h, e, k, hk => by
    have h1 := sm_mono (n := n) (fun k hk => h k (by omega))
    have h2 := h n (by omega)
    have ef : sm f (n + 1) = sm f n + f n := rfl
    have eg : sm g (n + 1) = sm g n + g n := rfl
    have e3 : sm f n = sm g n := by omega
    by_cases c : k = n
    · rw [c]
      omega
    · exact sm_all (fun k hk => h k (by omega)) e3 k (by omega)
theorem wt_le {e0 : Nat} {e : Nat → Nat → Nat} (h0 : e0 ≤ 1) (he : ∀ b w, e b w ≤ 1) (f : Nat) : wt1 e0 e f ≤ 1 := by
  unfold wt1
  split
  · exact h0
  · exact he _ _
/-- all the good ways weigh 1, where the sum is that of all -/
theorem all_wt {T Z : Nat → Nat} {p e0 : Nat} {e : Nat → Nat → Nat} (h0 : e0 ≤ 1) (he : ∀ b w, e b w ≤ 1) : (sm (fun way => wt1 e0 e (fig T way p) * good T Z way) (DD T ^ T 1) = sm (good T Z) (DD T ^ T 1)) ↔ ∀ k, k < DD T ^ T 1 → good T Z k ≠ 0 → wt1 e0 e (fig T k p) = 1 := by
  constructor
  · intro h k hk hg
    have h1 := sm_all (f := fun way => wt1 e0 e (fig T way p) * good T Z way) (g := good T Z) (fun k _ => by
      have := Nat.mul_le_mul (wt_le h0 he (fig T k p)) (Nat.le_refl (good T Z k))
      rw [Nat.one_mul] at this
      exact this) h k hk
    have h2 : wt1 e0 e (fig T k p) * good T Z k = good T Z k := h1
    have g1 : good T Z k = 1 := by
      have := good_le T Z k
      omega
    rw [g1, Nat.mul_one] at h2
    exact h2
  · intro h
    refine sm_cong (fun k hk => ?_)
    by_cases g : good T Z k = 0
    · rw [g, Nat.mul_zero]
    · rw [h k hk g, Nat.one_mul]
theorem bc_none {T : Nat → Nat} (hT : T 0 ≤ 6) (p k : Nat) : wt1 1 (fun _ _ => 0) (fig T k p) = 1 ↔ bcI T p k = -4 := by
  unfold wt1 bcI
  by_cases c : fig T k p = 0
  · rw [if_pos c, if_pos c]
    exact ⟨fun _ => rfl, fun _ => rfl⟩
  · rw [if_neg c, if_neg c]
    have hb := bcI_lt p k c
    constructor
    · intro q
      exact absurd (show (0 : Nat) = 1 from q) (by decide)
    · intro q
      exfalso
      have q2 := congrArg Int32.toInt q
      rw [nI_toInt (by omega)] at q2
      have : (-4 : Int32).toInt = -4 := by decide
      omega
theorem bc_bar {T : Nat → Nat} (hT : T 0 ≤ 6) (p k b : Nat) (hb : b < 6) : wt1 0 (fun x _ => if x = b then 1 else 0) (fig T k p) = 1 ↔ bcI T p k = nI b := by
  unfold wt1 bcI
  by_cases c : fig T k p = 0
  · rw [if_pos c, if_pos c]
    constructor
    · intro q
      exact absurd q (by decide)
    · intro q
      exfalso
      have q2 := congrArg Int32.toInt q
      rw [nI_toInt (by omega)] at q2
      have : (-4 : Int32).toInt = -4 := by decide
      omega
  · rw [if_neg c, if_neg c]
    have hb2 := bcI_lt p k c
    constructor
    · intro q
      by_cases d : (fig T k p - 1) / 10 = b
      · rw [d]
      · have q' : (if (fig T k p - 1) / 10 = b then 1 else 0) = 1 := q
        rw [if_neg d] at q'
        exact absurd q' (by decide)
    · intro q
      exact if_pos (nI_inj (by omega) (by omega) q)
theorem none_iff {T Z : Nat → Nat} (hT : T 0 ≤ 6 ∧ T 1 ≤ 3) {p : Nat} (hp : p < T 1) : WB T Z allT (2 ^ p) = WB T Z allT 0 ↔ ∀ k, k < DD T ^ T 1 → good T Z k ≠ 0 → bcI T p k = -4 := by
  have a := all_wt (T := T) (Z := Z) (p := p) (e0 := 1) (e := fun _ _ => 0) (Nat.le_refl 1) (fun _ _ => Nat.zero_le 1)
  have s := all_sum (T := T) (Z := Z) hT.2
  rw [none_sum hT.2 hp] at a
  rw [← s]
  constructor
  · intro q k hk hg
    exact (bc_none hT.1 p k).mp (a.mp q k hk hg)
  · intro q
    exact a.mpr (fun k hk hg => (bc_none hT.1 p k).mpr (q k hk hg))
theorem hold_iff {T Z : Nat → Nat} (hT : T 0 ≤ 6 ∧ T 1 ≤ 3) {p b : Nat} (hp : p < T 1) (hb : b < T 0) : HB T Z p b = WB T Z allT 0 ↔ ∀ k, k < DD T ^ T 1 → good T Z k ≠ 0 → bcI T p k = nI b := by
  have a := all_wt (T := T) (Z := Z) (p := p) (e0 := 0) (e := fun x _ => if x = b then 1 else 0) (Nat.zero_le 1) (fun x _ => by split <;> omega)
  have s := all_sum (T := T) (Z := Z) hT.2
  rw [hold_sum hT.2 hp hb] at a
  rw [← s]
  constructor
  · intro q k hk hg
    exact (bc_bar hT.1 p k b (by omega)).mp (a.mp q k hk hg)
  · intro q
    exact a.mpr (fun k hk hg => (bc_bar hT.1 p k b (by omega)).mpr (q k hk hg))
theorem HB_le {T Z : Nat → Nat} (hT : T 0 ≤ 6 ∧ T 1 ≤ 3) {p b : Nat} (hp : p < T 1) (hb : b < T 0) : HB T Z p b ≤ 226981 := by
  have s := all_sum (T := T) (Z := Z) hT.2
  have h := WB_le (Z := Z) hT allT 0
  rw [← s] at h
  rw [← hold_sum hT.2 hp hb]
  refine Nat.le_trans (sm_mono (fun k _ => ?_)) h
  have := Nat.mul_le_mul (wt_le (e0 := 0) (e := fun x _ => if x = b then 1 else 0) (Nat.zero_le 1) (fun x _ => by split <;> omega) (fig T k p)) (Nat.le_refl (good T Z k))
  rw [Nat.one_mul] at this
  exact this
theorem bar_loop {T X Z : Nat → Nat} {p a : Nat} (ha : a ≤ 226981) {Q : Int32 → St → Prop} {kx : St → Prop} : ∀ (j b : Nat) (S : St), b + j = T 0 → RAIL S T → LEARN S T Z → p < T 1 → (∀ c, b ≤ c → c < T 0 → HB T Z p c = a → (∀ d, b ≤ d → d < c → HB T Z p d ≠ a) → ∀ S2 : St, FR [44] S S2 → Q (nI c) S2) → ((∀ c, b ≤ c → c < T 0 → HB T Z p c ≠ a) → ∀ S2 : St, FR [44] S S2 → kx S2) → X6_sure_L60 (nI p) (nI a) Q kx (j + 1) S (nI b)
  | 0, b, S, hb, hR, hL, hp, h1, h2 => by
    have hT : T 0 ≤ 6 ∧ T 1 ≤ 3 := ⟨hR.1.1, hR.1.2.1⟩
    obtain rfl : b = T 0 := by omega
    rw [X6_sure_L60]
    exact pk_le (T 0) (T 0) (fun _ => h2 (fun c c1 c2 => absurd c2 (by omega)) S FR.rf) (fun c => absurd c (by omega)) hR.2.1.1 rfl
  | j + 1, b, S, hb, hR, hL, hp, h1, h2 => by
    have hT : T 0 ≤ 6 ∧ T 1 ≤ 3 := ⟨hR.1.1, hR.1.2.1⟩
    rw [X6_sure_L60]
    refine pk_le (T 0) b (fun c => absurd c (by omega)) (fun _ => holding_ok hT hL (by omega) hp (fun S2 f l => ?_)) hR.2.1.1 rfl
    have hh := HB_le (Z := Z) hT hp (show b < T 0 by omega)
    refine pk_eqN (HB T Z p b) a (fun c => ?_) (fun c => h1 b (Nat.le_refl b) (by omega) c (fun d d1 d2 => absurd d2 (by omega)) S2 f) rfl rfl
    rintro _ rfl
    rw [nI_1]
    refine bar_loop (X := X) ha j (b + 1) S2 (by omega) (hR.fr f) l hp (fun c' c1 c2 c3 c4 S3 f3 => h1 c' (by omega) c2 c3 (fun d d1 d2 => ?_) S3 (f.tr f3)) (fun hno S3 f3 => h2 (fun c' c1 c2 => ?_) S3 (f.tr f3))
    · by_cases e : d = b
      · rw [e]
        exact c
      · exact c4 d (by omega) d2
    · by_cases e : c' = b
      · rw [e]
        exact c
      · exact hno c' (by omega) c2
theorem good_zero {T Z : Nat → Nat} (hT : T 0 ≤ 6 ∧ T 1 ≤ 3) : WB T Z allT 0 = 0 ↔ ∀ k, k < DD T ^ T 1 → good T Z k = 0 := by
  have s := all_sum (T := T) (Z := Z) hT.2
  rw [← s]
  constructor
  · intro q k hk
    have := sm_part (f := fun way => good T Z way) hk
    have e : (fun way => good T Z way) k = good T Z k := rfl
    omega
  · intro q
    exact sm_zero q
theorem ok_sure {S : St} (h : INV S) (x : Int32) : w_X6_sure S x (fun r S1 => w_X7_sure S1 x (fun r2 S2 => r = r2 ∧ INV S2)) := by
  have hI := h
  obtain ⟨T, X, Z, nt, hR, hW, hT, h0, h1, ht⟩ := h
  have hB : T 0 ≤ 6 ∧ T 1 ≤ 3 := ⟨hR.1.1, hR.1.2.1⟩
  unfold w_X6_sure
  rcases person_cases hR x with ⟨p, hp, rfl⟩ | ⟨g1, g2⟩
  · refine hasPerson_in hR.2.1.2.1 hB.2 hp (nb_t (by decide) (learn_ok hR hW (fun S1 f1 l1 => all_ok hB l1 (fun S2 f2 l2 => ?_))))
    have f12 : FR scr S S2 := f1.tr (f2.mono (by decide))
    -- the model's answer, from any later state
    have mod : ∀ (S3 : St) (v : Int32), FR scr S S3 → v = svI T Z p (DD T ^ T 1) → w_X7_sure S3 (nI p) (fun r2 S4 => v = r2 ∧ INV S4) := by
      intro S3 v f3 hv
      unfold w_X7_sure
      refine isPerson_in ((hR.fr f3).2.2.1 1 (by omega)) hB.2 hp (nb_t (by decide) (lays_ok (hR.fr f3) (fun S4 f4 l4 => ?_)))
      have f34 : FR scr S S4 := f3.tr (f4.mono (by decide))
      exact ⟨DD T ^ T 1 + 1, sure_loop (X := X) (Z := Z) (by omega) (DD T ^ T 1) 0 S4 (by omega) (hR.fr f34) (hW.fr f34) l4 (fun S5 f5 => ⟨hv, hI.frame (f34.tr (f5.mono (by decide)))⟩)⟩
    have hsv := SV_step (Z := Z) hB.1 p (DD T ^ T 1)
    have hw0 := WB_le (Z := Z) hB allT 0
    have hwp := WB_le (Z := Z) hB allT (2 ^ p)
    refine pk_eqN (WB T Z allT 0) 0 (fun c => ?_) (fun c => ?_)
    · have hpos : ∃ k, k < DD T ^ T 1 ∧ good T Z k ≠ 0 := by
        by_cases z : ∃ k, k < DD T ^ T 1 ∧ good T Z k ≠ 0
        · exact z
        · exfalso
          refine c ((good_zero hB).mpr (fun k hk => ?_))
          by_cases y : good T Z k = 0
          · exact y
          · exact absurd ⟨k, hk, y⟩ z
      obtain ⟨k0, hk0, hg0⟩ := hpos
      refine holdingNone_ok hB l2 hp (fun S3 f3 l3 => ?_)
      have f13 : FR scr S S3 := f12.tr (f3.mono (by decide))
      refine pk_eqN (WB T Z allT (2 ^ p)) (WB T Z allT 0) (fun d => ?_) (fun d => ?_)
      · refine ⟨T 0 + 1, bar_loop (X := X) hw0 (T 0) 0 S3 (by omega) (hR.fr f13) l3 hp (fun b _ b2 b3 _ S4 f4 => mod S4 _ (f13.tr (f4.mono (by decide))) ?_) (fun hno S4 f4 => mod S4 _ (f13.tr (f4.mono (by decide))) ?_)⟩
        · have ha := (hold_iff hB hp b2).mp b3
          rcases hsv with ⟨_, s2⟩ | ⟨⟨k, k1, k2, k3⟩, _⟩ | ⟨_, k, l, k1, k2, k3, k4, k5⟩
          · exact absurd (s2 k0 hk0) hg0
          · rw [k3, ha k k1 k2]
          · exact absurd ((ha k k1 k3).trans (ha l k2 k4).symm) k5
        · rcases hsv with ⟨_, s2⟩ | ⟨⟨k, k1, k2, k3⟩, s2⟩ | ⟨s1, _⟩
          · exact absurd (s2 k0 hk0) hg0
          · exfalso
            by_cases z : fig T k p = 0
            · refine d ((none_iff hB hp).mpr (fun m hm hg => ?_))
              rw [s2 m hm hg, k3, bcI, if_pos z]
            · refine hno ((fig T k p - 1) / 10) (Nat.zero_le _) (bcI_lt p k z) ((hold_iff hB hp (bcI_lt p k z)).mpr (fun m hm hg => ?_))
              rw [s2 m hm hg, k3, bcI, if_neg z]
          · exact s1.symm
      · refine mod S3 _ f13 ?_
        have ha := (none_iff hB hp).mp d
        rcases hsv with ⟨_, s2⟩ | ⟨⟨k, k1, k2, k3⟩, _⟩ | ⟨_, k, l, k1, k2, k3, k4, k5⟩
        · exact absurd (s2 k0 hk0) hg0
        · rw [k3, ha k k1 k2]
        · exact absurd ((ha k k1 k3).trans (ha l k2 k4).symm) k5
    · refine mod S2 _ f12 ?_
      have hz := (good_zero hB).mp c
      rcases hsv with ⟨s1, _⟩ | ⟨⟨k, k1, k2, k3⟩, _⟩ | ⟨_, k, l, k1, k2, k3, k4, k5⟩
      · exact s1.symm
      · exact absurd (hz k k1) k2
      · exact absurd (hz k k1) k3
  · refine hasPerson_out g1 (nb_f rfl ?_)
    unfold w_X7_sure
    exact isPerson_out g2 (nb_f rfl ⟨rfl, hI⟩)
