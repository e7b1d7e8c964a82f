/-! The class's Ways: gathering, and what is asked of it. -/
theorem ls_nil : ∀ P, P ≤ 3 → ∀ s, s < 2 ^ P → (ls P s = [] ↔ s = 0) := by decide +kernel
theorem ls_mem : ∀ P, P ≤ 3 → ∀ s, s < 2 ^ P → ∀ p, p < P → (s.testBit p = true ↔ p ∈ ls P s) := by decide +kernel
theorem sub_le : ∀ s, s < 8 → ∀ part, part < 8 → part &&& (7 ^^^ s) = 0 → s ^^^ part ≤ s := by decide +kernel
theorem ls_len : ∀ P, P ≤ 3 → ∀ s, s < 8 → (ls P s).length ≤ 3 := by decide +kernel
theorem ls_mem3 : ∀ P, P ≤ 3 → ∀ s, s < 8 → ∀ p ∈ ls P s, p < P := by decide +kernel
theorem co_lt (P s : Nat) (hP : P ≤ 3) : co P s < 8 := by
  have h := pow_le8 P hP
  unfold co
  omega
theorem Fq_le {k : WK} (h1 : ∀ b x, k.1 b x ≤ 1) (h3 : ∀ p b w, k.2.2.2 p b w ≤ 1) (b : Nat) : ∀ (L : List Nat) (x : Nat), Fq k b L x ≤ 10 ^ L.length
  | [], x => h1 b x
  | p :: L, x => by
    rw [Fq, List.length_cons, Nat.pow_succ, Nat.mul_comm]
    refine sm_le (fun w _ => ?_)
    calc k.2.2.2 p b w * Fq k b L (x + k.2.1 p b w) ≤ 1 * 10 ^ L.length := Nat.mul_le_mul (h3 p b w) (Fq_le h1 h3 b L _)
      _ = 10 ^ L.length := Nat.one_mul _
theorem pd_le1 {f : Nat → Nat} : ∀ {n : Nat}, (∀ k, k < n → f k ≤ 1) → pd f n ≤ 1
  | 0, _ => Nat.le_refl 1
  | n + 1, h => by
    rw [pd]
    calc pd f n * f n ≤ 1 * 1 := Nat.mul_le_mul (pd_le1 (fun k hk => h k (by omega))) (h n (by omega))
      _ = 1 := rfl
theorem Wq_le {k : WK} (h1 : ∀ b x, k.1 b x ≤ 1) (h2 : ∀ p, k.2.2.1 p ≤ 1) (h3 : ∀ p b w, k.2.2.2 p b w ≤ 1) (act : Nat → Bool) (m : Nat) : ∀ (L : List Nat) (c : Nat → Nat), Wq k act m L c ≤ (1 + m * 10) ^ L.length
  | [], c => by
    rw [Wq]
    refine pd_le1 (fun b _ => ?_)
    split
    · exact h1 b _
    · exact Nat.le_refl 1
  | p :: L, c => by
    rw [Wq, List.length_cons, Nat.pow_succ, Nat.mul_comm ((1 + m * 10) ^ L.length) (1 + m * 10), Nat.add_mul, Nat.one_mul]
    refine Nat.add_le_add ?_ ?_
    · calc k.2.2.1 p * Wq k act m L c ≤ 1 * (1 + m * 10) ^ L.length := Nat.mul_le_mul (h2 p) (Wq_le h1 h2 h3 act m L c)
        _ = _ := Nat.one_mul _
    · rw [Nat.mul_assoc]
      refine sm_le (fun b _ => ?_)
      split
      · refine sm_le (fun w _ => ?_)
        calc k.2.2.2 p b w * Wq k act m L (addc c b (k.2.1 p b w)) ≤ 1 * (1 + m * 10) ^ L.length := Nat.mul_le_mul (h3 p b w) (Wq_le h1 h2 h3 act m L _)
          _ = _ := Nat.one_mul _
      · exact Nat.zero_le _
theorem okN_le (Z : Nat → Nat) (b x : Nat) : okN Z b x ≤ 1 := by
  unfold okN
  split <;> omega
theorem p61 {B n : Nat} (hB : B ≤ 6) (hn : n ≤ 3) : (1 + B * 10) ^ n ≤ 226981 := by
  calc (1 + B * 10) ^ n ≤ 61 ^ n := Nat.pow_le_pow_left (by omega) n
    _ ≤ 61 ^ 3 := Nat.pow_le_pow_right (by omega) hn
    _ = 226981 := rfl
def GATH (S : St) (T Z : Nat → Nat) (act : Nat → Bool) (m : Nat) : Prop := ∀ v, v < 2 ^ T 1 → S.1 44 v = nI (Gq (wkN T Z) act (bsN T) m (ls (T 1) v))
theorem gb_in {S : St} {T : Nat → Nat} (hP : T 1 ≤ 3) {b s : Nat} (hb : b < 6) (hs : s < 2 ^ T 1) {F g : List Nat → Nat} (h43 : ∀ v, v < 2 ^ T 1 → S.1 43 (b * 8 + v) = nI (F (ls (T 1) v))) (h44 : ∀ v, v ≤ s → S.1 44 v = nI (g (ls (T 1) v))) {kx : Int32 → Prop} (h : kx (nI (sm (fun part => if part &&& (7 ^^^ s) = 0 then F (ls (T 1) part) * g (ls (T 1) (s ^^^ part)) else 0) (s + 1)))) : ∀ (j i : Nat), i + j = s + 1 → X5_gatherBar_L18 S (nI b) (nI s) kx (j + 1) (nI (sm (fun part => if part &&& (7 ^^^ s) = 0 then F (ls (T 1) part) * g (ls (T 1) (s ^^^ part)) else 0) i)) (nI i)
  | 0, i, hi => by
    have hp := pow_le8 (T 1) hP
    obtain rfl : i = s + 1 := by omega
    rw [X5_gatherBar_L18]
    exact pk_lt s (s + 1) (fun _ => h) (fun c => absurd c (by omega)) rfl rfl
  | j + 1, i, hi => by
    have hp := pow_le8 (T 1) hP
    obtain ⟨s1, s2, s3, s4⟩ := sub_bits s (by omega) i (by omega)
    have e : sm (fun part => if part &&& (7 ^^^ s) = 0 then F (ls (T 1) part) * g (ls (T 1) (s ^^^ part)) else 0) (i + 1) = sm (fun part => if part &&& (7 ^^^ s) = 0 then F (ls (T 1) part) * g (ls (T 1) (s ^^^ part)) else 0) i + if i &&& (7 ^^^ s) = 0 then F (ls (T 1) i) * g (ls (T 1) (s ^^^ i)) else 0 := rfl
    rw [X5_gatherBar_L18]
    refine pk_lt s i (fun c => absurd c (by omega)) (fun _ => ?_) rfl rfl
    by_cases c : i &&& (7 ^^^ s) = 0
    · refine nb_f (s1.mpr c) ?_
      have hle := sub_le s (by omega) i (by omega) c
      rw [show (8 : Int32) = nI 8 from rfl, nI_muladd, s2]
      refine ⟨vin (by omega), vin s3, ?_⟩
      rintro _ rfl _ rfl
      rw [if_pos c] at e
      rw [nI_clamp (by omega), nI_clamp (by omega), h43 i (by omega), h44 _ hle, pk_mul, nI_add, nI_1, ← e]
      exact gb_in hP hb hs h43 h44 h j (i + 1) (by omega)
    · refine nb_t (fun q => c (s1.mp q)) ?_
      rintro _ rfl
      rw [if_neg c] at e
      have e2 := Eq.trans e (Nat.add_zero _)
      rw [nI_1, ← e2]
      exact gb_in hP hb hs h43 h44 h j (i + 1) (by omega)
theorem gb_out {T Z : Nat → Nat} {act : Nat → Bool} (hP : T 1 ≤ 3) {b : Nat} (hb : b < 6) (ha : act b = true) {kx : St → Prop} : ∀ (s : Nat) (S : St), s ≤ 2 ^ T 1 → (∀ v, v < 2 ^ T 1 → S.1 43 (b * 8 + v) = nI (Fq (wkN T Z) b (ls (T 1) v) (bsN T b))) → (∀ v, v < s → S.1 44 v = nI (Gq (wkN T Z) act (bsN T) b (ls (T 1) v))) → (∀ v, s ≤ v → v < 2 ^ T 1 → S.1 44 v = nI (Gq (wkN T Z) act (bsN T) (b + 1) (ls (T 1) v))) → (∀ S2 : St, FR [44] S S2 → GATH S2 T Z act (b + 1) → kx S2) → X5_gatherBar_L9 (nI b) kx (s + 1) S (nI s - 1)
  | 0, S, hs, h43, h1, h2, h => by
    rw [X5_gatherBar_L9]
    exact br_t (by decide) (h S FR.rf (fun v hv => h2 v (by omega) hv))
  | s + 1, S, hs, h43, h1, h2, h => by
    have hp := pow_le8 (T 1) hP
    rw [X5_gatherBar_L9, nI_m1 _ (by omega), Nat.add_sub_cancel]
    refine pk_lt s 0 (fun c => absurd c (by omega)) (fun _ => ⟨s + 1 + 1, ?_⟩) rfl rfl
    refine gb_in (F := fun a => Fq (wkN T Z) b a (bsN T b)) (g := fun a => Gq (wkN T Z) act (bsN T) b a) hP hb (by omega) h43 (fun v hv => h1 v (by omega)) ⟨vin (by omega), ?_⟩ (s + 1) 0 (by omega)
    rintro _ rfl _ rfl
    have m1 : nI s + -1 = nI s - 1 := by rw [Int32.sub_eq_add_neg]
    have e : sm (fun part => if part &&& (7 ^^^ s) = 0 then Fq (wkN T Z) b (ls (T 1) part) (bsN T b) * Gq (wkN T Z) act (bsN T) b (ls (T 1) (s ^^^ part)) else 0) (s + 1) = Gq (wkN T Z) act (bsN T) (b + 1) (ls (T 1) s) := by
      rw [gs_all (T 1) s hP (by omega) (fun a => Fq (wkN T Z) b a (bsN T b)) (fun a => Gq (wkN T Z) act (bsN T) b a), Gq, if_pos ha]
    rw [m1, nI_clamp (by omega), e]
    have hF : FR [44] S (setA S 44 (upd (S.1 44) s (nI (Gq (wkN T Z) act (bsN T) (b + 1) (ls (T 1) s))))) := FR.set FR.rf (by decide)
    refine gb_out hP hb ha s _ (by omega) h43 (fun v hv => ?_) (fun v v1 v2 => ?_) (fun S2 f g => h S2 (hF.tr f) g)
    · show upd (S.1 44) s _ v = _
      rw [pk_un (by omega)]
      exact h1 v (by omega)
    · show upd (S.1 44) s _ v = _
      by_cases c : v = s
      · subst c
        rw [pk_us]
      · rw [pk_un c]
        exact h2 v (by omega) v2
theorem gather_loop {T Z : Nat → Nat} {act : Nat → Bool} {lo : Int32} (hT : T 0 ≤ 6 ∧ T 1 ≤ 3) (hlo : ∀ b, b < 6 → (nI b = lo ↔ act b = false)) {kx : St → Prop} : ∀ (j b : Nat) (S : St), b + j = T 0 → LEARN S T Z → GATH S T Z act b → (∀ S2 : St, FR [44] S S2 → GATH S2 T Z act (T 0) → kx S2) → X5_gather_L17 lo kx (j + 1) S (nI b)
  | 0, b, S, hb, hL, hG, h => by
    obtain rfl : b = T 0 := by omega
    rw [X5_gather_L17]
    exact pk_le (T 0) (T 0) (fun _ => h S FR.rf hG) (fun c => absurd c (by omega)) hL.1.1 rfl
  | j + 1, b, S, hb, hL, hG, h => by
    have hp := pow_le8 (T 1) hT.2
    rw [X5_gather_L17]
    refine pk_le (T 0) b (fun c => absurd c (by omega)) (fun _ => ?_) hL.1.1 rfl
    by_cases c : act b = false
    · refine br_t ((hlo b (by omega)).mpr c) ?_
      rintro _ rfl
      rw [nI_1]
      refine gather_loop hT hlo j (b + 1) S (by omega) hL (fun v hv => ?_) h
      rw [hG v hv, Gq, if_neg (by rw [c]; decide)]
    · have ca : act b = true := by
        cases hab : act b with
        | false => exact absurd hab c
        | true => rfl
      refine br_f (fun q => c ((hlo b (by omega)).mp q)) ?_
      unfold w_X5_gatherBar
      have e1 : (1 : Int32) <<< (S.1 3901 0 &&& 31) - 1 = nI (2 ^ T 1) - 1 := by
        rw [hL.1.2.1, sh_bits _ hT.2]
      rw [e1]
      rintro _ rfl
      refine ⟨2 ^ T 1 + 1, gb_out hT.2 (by omega) ca (2 ^ T 1) S (Nat.le_refl _) (hL.2 b (by omega)).2.2.2 hG (fun v v1 v2 => absurd v2 (by omega)) (fun S2 f g => ?_)⟩
      rintro _ rfl
      rw [nI_1]
      exact gather_loop hT hlo j (b + 1) S2 (by omega) (hL.fr f) g (fun S3 f3 g3 => h S3 (f.tr f3) g3)
theorem gather_ok {S : St} {T Z : Nat → Nat} (act : Nat → Bool) {lo : Int32} (hT : T 0 ≤ 6 ∧ T 1 ≤ 3) (hL : LEARN S T Z) (hlo : ∀ b, b < 6 → (nI b = lo ↔ act b = false)) {Q : St → Prop} (h : ∀ S2 : St, FR [44] S S2 → GATH S2 T Z act (T 0) → Q S2) : w_X5_gather S lo Q := by
  unfold w_X5_gather
  rintro _ rfl
  refine ⟨vin (i := 0) (by omega), ?_⟩
  rintro _ rfl
  have hF : FR [44] S (setA (setA S 44 (fun _ => 0)) 44 (upd (fun _ => 0) 0 1)) := FR.set (FR.set FR.rf (by decide)) (by decide)
  refine ⟨T 0 + 1, gather_loop hT hlo (T 0) 0 _ (by omega) (hL.fr hF) (fun v hv => ?_) (fun S2 f g => h S2 (hF.tr f) g)⟩
  show upd (fun _ => 0) 0 1 v = nI (if ls (T 1) v = [] then 1 else 0)
  by_cases c : v = 0
  · subst c
    rw [pk_us, if_pos ((ls_nil _ hT.2 0 hv).mpr rfl)]
    rfl
  · rw [pk_un c, if_neg (fun q => c ((ls_nil _ hT.2 v hv).mp q))]
    rfl
theorem wb_loop {S : St} {T : Nat → Nat} (hP : T 1 ≤ 3) (e39 : S.1 3901 0 = nI (T 1)) {s : Nat} (hs : s < 8) {g : List Nat → Nat} (h44 : ∀ v, v < 2 ^ T 1 → S.1 44 v = nI (g (ls (T 1) v))) {kx : Int32 → Prop} (h : kx (nI (sm (fun o => if o &&& s = 0 then g (ls (T 1) o) else 0) (2 ^ T 1)))) : ∀ (j i : Nat), i + j = 2 ^ T 1 → X5_waysBeside_L4 S (nI s) kx (j + 1) (nI (sm (fun o => if o &&& s = 0 then g (ls (T 1) o) else 0) i)) (nI i)
  | 0, i, hi => by
    have hp := pow_le8 (T 1) hP
    have e1 : (1 : Int32) <<< (S.1 3901 0 &&& 31) = nI (2 ^ T 1) := by
      rw [e39]
      exact sh_bits _ hP
    obtain rfl : i = 2 ^ T 1 := by omega
    rw [X5_waysBeside_L4]
    exact pk_le (2 ^ T 1) (2 ^ T 1) (fun _ => h) (fun c => absurd c (by omega)) e1 rfl
  | j + 1, i, hi => by
    have hp := pow_le8 (T 1) hP
    have e1 : (1 : Int32) <<< (S.1 3901 0 &&& 31) = nI (2 ^ T 1) := by
      rw [e39]
      exact sh_bits _ hP
    obtain ⟨s1, s2, s3, s4⟩ := sub_bits s hs i (by omega)
    have e : sm (fun o => if o &&& s = 0 then g (ls (T 1) o) else 0) (i + 1) = sm (fun o => if o &&& s = 0 then g (ls (T 1) o) else 0) i + if i &&& s = 0 then g (ls (T 1) i) else 0 := rfl
    rw [X5_waysBeside_L4]
    refine pk_le (2 ^ T 1) i (fun c => absurd c (by omega)) (fun _ => ?_) e1 rfl
    by_cases c : i &&& s = 0
    · refine nb_f (s4.mpr c) ⟨vin (by omega), ?_⟩
      rintro _ rfl _ rfl
      rw [if_pos c] at e
      rw [nI_clamp (by omega), h44 i (by omega), nI_add, nI_1, ← e]
      exact wb_loop hP e39 hs h44 h j (i + 1) (by omega)
    · refine nb_t (fun q => c (s4.mp q)) ?_
      rintro _ rfl
      rw [if_neg c] at e
      have e2 := Eq.trans e (Nat.add_zero _)
      rw [nI_1, ← e2]
      exact wb_loop hP e39 hs h44 h j (i + 1) (by omega)
/-- the ways of all but a set, over the bars that were gathered -/
def WB (T Z : Nat → Nat) (act : Nat → Bool) (s : Nat) : Nat := Wq (wkN T Z) act (T 0) (ls (T 1) (co (T 1) s)) (bsN T)
theorem WB_le {T Z : Nat → Nat} (hT : T 0 ≤ 6 ∧ T 1 ≤ 3) (act : Nat → Bool) (s : Nat) : WB T Z act s ≤ 226981 := by
  refine Nat.le_trans (Wq_le (k := wkN T Z) (okN_le Z) (fun _ => Nat.le_refl 1) (fun _ _ _ => Nat.le_refl 1) act (T 0) _ _) ?_
  exact p61 hT.1 (ls_len _ hT.2 _ (co_lt _ _ hT.2))
theorem waysBeside_ok {S : St} {T Z : Nat → Nat} {act : Nat → Bool} (hT : T 0 ≤ 6 ∧ T 1 ≤ 3) (hL : LEARN S T Z) (hG : GATH S T Z act (T 0)) {s : Nat} (hs : s < 2 ^ T 1) {Q : Int32 → Prop} (h : Q (nI (WB T Z act s))) : w_X5_waysBeside S (nI s) Q := by
  have hp := pow_le8 (T 1) hT.2
  unfold WB at h
  rw [Wq_G (wkN T Z) act (fun _ => rfl) (bsN T) (T 0)] at h
  refine ⟨2 ^ T 1 + 1, wb_loop hT.2 hL.1.2.1 (by omega) hG (kx := fun v => Q v) ?_ (2 ^ T 1) 0 (by omega)⟩
  rw [wb_all (T 1) s hT.2 hs (fun a => Gq (wkN T Z) act (bsN T) (T 0) a)]
  exact h
def allT : Nat → Bool := fun _ => true
theorem ne9b : ∀ b, b < 6 → (nI b = -9 ↔ allT b = false) := by decide
theorem neb {c : Nat} (hc : c < 6) : ∀ b, b < 6 → (nI b = nI c ↔ off allT c b = false) := by
  intro b hb
  unfold off allT
  constructor
  · intro q
    rw [if_pos (nI_inj (by omega) (by omega) q)]
  · intro q
    by_cases e : b = c
    · rw [e]
    · rw [if_neg e] at q
      exact absurd q (by decide)
theorem all_ok {S : St} {T Z : Nat → Nat} (hT : T 0 ≤ 6 ∧ T 1 ≤ 3) (hL : LEARN S T Z) {Q : Int32 → St → Prop} (h : ∀ S2 : St, FR [44] S S2 → LEARN S2 T Z → Q (nI (WB T Z allT 0)) S2) : w_X5_all S Q := by
  unfold w_X5_all
  refine gather_ok allT hT hL ne9b (fun S2 f g => ?_)
  exact waysBeside_ok (s := 0) hT (hL.fr f) g (pow_le8 _ hT.2).2 (h S2 f (hL.fr f))
theorem two_lt : ∀ P, P ≤ 3 → ∀ p, p < P → 2 ^ p < 2 ^ P := by decide
theorem holdingNone_ok {S : St} {T Z : Nat → Nat} (hT : T 0 ≤ 6 ∧ T 1 ≤ 3) (hL : LEARN S T Z) {p : Nat} (hp : p < T 1) {Q : Int32 → St → Prop} (h : ∀ S2 : St, FR [44] S S2 → LEARN S2 T Z → Q (nI (WB T Z allT (2 ^ p))) S2) : w_X5_holdingNone S (nI p) Q := by
  unfold w_X5_holdingNone
  refine gather_ok allT hT hL ne9b (fun S2 f g => ?_)
  rw [sh_bits p (by omega)]
  exact waysBeside_ok hT (hL.fr f) g (two_lt _ hT.2 p hp) (h S2 f (hL.fr f))
/-- the ways in which a person holds a bar -/
def HB (T Z : Nat → Nat) (p b : Nat) : Nat := SP (fun a r => if p ∈ a then Fq (wkN T Z) b a (bsN T b) * Wq (wkN T Z) (off allT b) (T 0) r (bsN T) else 0) (ls (T 1) (co (T 1) 0))
theorem holding_loop {S : St} {T Z : Nat → Nat} (hT : T 0 ≤ 6 ∧ T 1 ≤ 3) (hL : LEARN S T Z) {p b : Nat} (hb : b < T 0) (hp : p < T 1) (hG : GATH S T Z (off allT b) (T 0)) {kx : Int32 → Prop} (h : kx (nI (sm (fun s => if s.testBit p = true then Fq (wkN T Z) b (ls (T 1) s) (bsN T b) * WB T Z (off allT b) s else 0) (2 ^ T 1)))) : ∀ (j i : Nat), i + j = 2 ^ T 1 → X5_holding_L10 S (nI p) (nI b) kx (j + 1) (nI (sm (fun s => if s.testBit p = true then Fq (wkN T Z) b (ls (T 1) s) (bsN T b) * WB T Z (off allT b) s else 0) i)) (nI i)
  | 0, i, hi => by
    have hp8 := pow_le8 (T 1) hT.2
    have e1 : (1 : Int32) <<< (S.1 3901 0 &&& 31) = nI (2 ^ T 1) := by
      rw [hL.1.2.1]
      exact sh_bits _ hT.2
    obtain rfl : i = 2 ^ T 1 := by omega
    rw [X5_holding_L10]
    exact pk_le (2 ^ T 1) (2 ^ T 1) (fun _ => h) (fun c => absurd c (by omega)) e1 rfl
  | j + 1, i, hi => by
    have hp8 := pow_le8 (T 1) hT.2
    have e1 : (1 : Int32) <<< (S.1 3901 0 &&& 31) = nI (2 ^ T 1) := by
      rw [hL.1.2.1]
      exact sh_bits _ hT.2
    have e : sm (fun s => if s.testBit p = true then Fq (wkN T Z) b (ls (T 1) s) (bsN T b) * WB T Z (off allT b) s else 0) (i + 1) = sm (fun s => if s.testBit p = true then Fq (wkN T Z) b (ls (T 1) s) (bsN T b) * WB T Z (off allT b) s else 0) i + if i.testBit p = true then Fq (wkN T Z) b (ls (T 1) i) (bsN T b) * WB T Z (off allT b) i else 0 := rfl
    rw [X5_holding_L10]
    refine pk_le (2 ^ T 1) i (fun c => absurd c (by omega)) (fun _ => ?_) e1 rfl
    refine isIn_ok (by omega) (by omega) (fun a => br_f (by decide) ?_) (fun a => br_t rfl ?_)
    · rw [show (8 : Int32) = nI 8 from rfl, nI_muladd]
      refine ⟨vin (by omega), waysBeside_ok hT hL hG (by omega) ?_⟩
      rintro _ rfl _ rfl
      rw [if_pos a] at e
      rw [nI_clamp (by omega), (hL.2 b hb).2.2.2 i (by omega), pk_mul, nI_add, nI_1, ← e]
      exact holding_loop hT hL hb hp hG h j (i + 1) (by omega)
    · rintro _ rfl
      rw [if_neg a] at e
      have e2 := Eq.trans e (Nat.add_zero _)
      rw [nI_1, ← e2]
      exact holding_loop hT hL hb hp hG h j (i + 1) (by omega)
theorem holding_ok {S : St} {T Z : Nat → Nat} (hT : T 0 ≤ 6 ∧ T 1 ≤ 3) (hL : LEARN S T Z) {p b : Nat} (hb : b < T 0) (hp : p < T 1) {Q : Int32 → St → Prop} (h : ∀ S2 : St, FR [44] S S2 → LEARN S2 T Z → Q (nI (HB T Z p b)) S2) : w_X5_holding S (nI p) (nI b) Q := by
  have hp8 := pow_le8 (T 1) hT.2
  unfold w_X5_holding
  refine gather_ok (off allT b) hT hL (neb (by omega)) (fun S2 f g => ⟨2 ^ T 1 + 1, holding_loop hT (hL.fr f) hb hp g ?_ (2 ^ T 1) 0 (by omega)⟩)
  have e : sm (fun s => if s.testBit p = true then Fq (wkN T Z) b (ls (T 1) s) (bsN T b) * WB T Z (off allT b) s else 0) (2 ^ T 1) = HB T Z p b := by
    unfold HB
    rw [← hs_all (T 1) hT.2]
    refine sm_cong (fun s hs => ?_)
    by_cases a : s.testBit p = true
    · rw [if_pos a, if_pos ((ls_mem _ hT.2 s hs p hp).mp a)]
      rfl
    · rw [if_neg a, if_neg (fun q => a ((ls_mem _ hT.2 s hs p hp).mpr q))]
  rw [e]
  exact h S2 f (hL.fr f)
