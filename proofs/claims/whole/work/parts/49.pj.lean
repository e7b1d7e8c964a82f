/-! Ways as numbers: the reference's count is the class's. -/
theorem sm_prod (f : Nat → Nat) (b : Nat) : ∀ a, sm f (a * b) = sm (fun q => sm (fun d => f (q * b + d)) b) a
  | 0 => by rw [Nat.zero_mul]; rfl
  | a + 1 => by
    rw [Nat.succ_mul, sm_split, sm_prod f b a]
    rfl
def DD (T : Nat → Nat) : Nat := 1 + T 0 * 10
def fig (T : Nat → Nat) (way p : Nat) : Nat := way / DD T ^ p % DD T
/-- the weight of a figure; the totals with a figure more -/
def wtN (k : WK) (p f : Nat) : Nat := if f = 0 then k.2.2.1 p else k.2.2.2 p ((f - 1) / 10) ((f - 1) % 10)
def accN (k : WK) (c : Nat → Nat) (p f : Nat) : Nat → Nat := if f = 0 then c else addc c ((f - 1) / 10) (k.2.1 p ((f - 1) / 10) ((f - 1) % 10))
def AW (k : WK) (B : Nat) : List Nat → Nat → (Nat → Nat) → Nat
  | [], _, c => pd (fun b => k.1 b (c b)) B
  | p :: L, way, c => wtN k p (way % (1 + B * 10)) * AW k B L (way / (1 + B * 10)) (accN k c p (way % (1 + B * 10)))
theorem AW_sum (k : WK) (B : Nat) : ∀ (L : List Nat) (c : Nat → Nat), sm (fun way => AW k B L way c) ((1 + B * 10) ^ L.length) = Wq k allT B L c
  | [], c => by
    show 0 + pd (fun b => k.1 b (c b)) B = pd (fun b => if allT b = true then k.1 b (c b) else 1) B
    rw [Nat.zero_add]
    exact pd_cong (fun b _ => (if_pos rfl).symm)
  | p :: L, c => by
    have e1 : ∀ q, ∀ d, d < 1 + B * 10 → AW k B (p :: L) (q * (1 + B * 10) + d) c = wtN k p d * AW k B L q (accN k c p d) := by
      intro q d hd
      have m : (q * (1 + B * 10) + d) % (1 + B * 10) = d := by
        rw [Nat.add_comm, Nat.add_mul_mod_self_right, Nat.mod_eq_of_lt hd]
      have v : (q * (1 + B * 10) + d) / (1 + B * 10) = q := by
        rw [Nat.add_comm, Nat.add_mul_div_right _ _ (by omega), Nat.div_eq_of_lt hd, Nat.zero_add]
      rw [AW, m, v]
    have e2 : ∀ d, sm (fun q => wtN k p d * AW k B L q (accN k c p d)) ((1 + B * 10) ^ L.length) = wtN k p d * Wq k allT B L (accN k c p d) := by
      intro d
      rw [sm_mulL, AW_sum k B L]
    rw [List.length_cons, Nat.pow_succ, sm_prod, sm_cong (fun q _ => sm_cong (fun d hd => e1 q d hd)), sm_swap, sm_cong (fun d _ => e2 d), sm_split]
    have e3 : sm (fun d => wtN k p d * Wq k allT B L (accN k c p d)) 1 = k.2.2.1 p * Wq k allT B L c := by
      show 0 + k.2.2.1 p * Wq k allT B L c = _
      rw [Nat.zero_add]
    rw [e3, Wq, sm_prod]
    congr 1
    refine sm_cong (fun b _ => ?_)
    rw [if_pos (show allT b = true from rfl)]
    refine sm_cong (fun w hw => ?_)
    have f1 : (1 + (b * 10 + w) - 1) / 10 = b := by omega
    have f2 : (1 + (b * 10 + w) - 1) % 10 = w := by omega
    rw [wtN, if_neg (by omega), accN, if_neg (by omega), f1, f2]
def ups : Nat → Nat → List Nat
  | 0, _ => []
  | r + 1, p => p :: ups r (p + 1)
theorem ups_len : ∀ r p, (ups r p).length = r
  | 0, _ => rfl
  | r + 1, p => by rw [ups, List.length_cons, ups_len r (p + 1)]
theorem ls_ups : ∀ P, P ≤ 3 → ls P (co P 0) = ups P 0 := by decide
/-- the totals of the bars after some people of a way; whether they are as was seen -/
def hw (k : WK) (T : Nat → Nat) (way : Nat) : Nat → Nat → Nat
  | 0 => bsN T
  | p + 1 => accN k (hw k T way p) p (fig T way p)
def WTr (k : WK) (T : Nat → Nat) (way : Nat) : Nat → Nat → Nat
  | 0, _ => 1
  | r + 1, p => wtN k p (fig T way p) * WTr k T way r (p + 1)
theorem AW_ups (k : WK) (T : Nat → Nat) (way : Nat) : ∀ (r p : Nat), AW k (T 0) (ups r p) (way / DD T ^ p) (hw k T way p) = WTr k T way r p * pd (fun b => k.1 b (hw k T way (p + r) b)) (T 0)
  | 0, p => by
    rw [ups, AW, WTr, Nat.one_mul]
    rfl
  | r + 1, p => by
    have e : way / DD T ^ p / (1 + T 0 * 10) = way / DD T ^ (p + 1) := by
      rw [Nat.div_div_eq_div_mul, Nat.pow_succ]
      rfl
    have h := AW_ups k T way r (p + 1)
    rw [ups, AW, e, WTr, Nat.mul_assoc, show p + (r + 1) = p + 1 + r by omega, ← h]
    rfl
/-- the reference's count, with weights, over all numbers of ways -/
theorem ways_sum (k : WK) (T : Nat → Nat) (hP : T 1 ≤ 3) : sm (fun way => WTr k T way (T 1) 0 * pd (fun b => k.1 b (hw k T way (T 1) b)) (T 0)) (DD T ^ T 1) = Wq k allT (T 0) (ls (T 1) (co (T 1) 0)) (bsN T) := by
  rw [ls_ups _ hP, ← AW_sum, ups_len]
  refine sm_cong (fun way _ => ?_)
  have h := AW_ups k T way (T 1) 0
  rw [Nat.pow_zero, Nat.div_one, Nat.zero_add] at h
  exact h.symm
/-- weights on one person alone -/
def kP (T Z : Nat → Nat) (q e0 : Nat) (e : Nat → Nat → Nat) : WK := (okN Z, lvN T, fun p => if p = q then e0 else 1, fun p b w => if p = q then e b w else 1)
def wt1 (e0 : Nat) (e : Nat → Nat → Nat) (f : Nat) : Nat := if f = 0 then e0 else e ((f - 1) / 10) ((f - 1) % 10)
theorem WTr_1 {T Z : Nat → Nat} {q e0 : Nat} {e : Nat → Nat → Nat} (way : Nat) : ∀ (r p : Nat), WTr (kP T Z q e0 e) T way r p = if p ≤ q ∧ q < p + r then wt1 e0 e (fig T way q) else 1
  | 0, p => by
    rw [WTr, if_neg (by omega)]
  | r + 1, p => by
    rw [WTr, WTr_1 way r (p + 1)]
    by_cases c : p = q
    · subst c
      rw [if_neg (by omega), if_pos (by omega), Nat.mul_one]
      unfold wtN wt1 kP
      simp
    · have e1 : wtN (kP T Z q e0 e) p (fig T way p) = 1 := by
        unfold wtN kP
        simp [c]
      rw [e1, Nat.one_mul]
      by_cases d : p + 1 ≤ q ∧ q < p + 1 + r
      · rw [if_pos d, if_pos (by omega)]
      · rw [if_neg d, if_neg (by omega)]
theorem hw_k {T : Nat → Nat} {k k2 : WK} (h : k.2.1 = k2.2.1) (way : Nat) : ∀ p, hw k T way p = hw k2 T way p
  | 0 => rfl
  | p + 1 => by
    rw [hw, hw, hw_k h way p]
    unfold accN
    rw [h]
/-- whether a way is as was seen: 1 or 0 -/
def good (T Z : Nat → Nat) (way : Nat) : Nat := pd (fun b => okN Z b (hw (wkN T Z) T way (T 1) b)) (T 0)
theorem one_sum {T Z : Nat → Nat} (hP : T 1 ≤ 3) {q e0 : Nat} {e : Nat → Nat → Nat} (hq : q < T 1) : sm (fun way => wt1 e0 e (fig T way q) * good T Z way) (DD T ^ T 1) = Wq (kP T Z q e0 e) allT (T 0) (ls (T 1) (co (T 1) 0)) (bsN T) := by
  rw [← ways_sum (kP T Z q e0 e) T hP]
  refine sm_cong (fun way _ => ?_)
  rw [WTr_1, if_pos (by omega), good, hw_k (k := kP T Z q e0 e) (k2 := wkN T Z) rfl]
  rfl
theorem all_sum {T Z : Nat → Nat} (hP : T 1 ≤ 3) : sm (fun way => good T Z way) (DD T ^ T 1) = WB T Z allT 0 := by
  unfold WB
  rw [← ways_sum (wkN T Z) T hP]
  refine sm_cong (fun way _ => ?_)
  have e : ∀ (r p : Nat), WTr (wkN T Z) T way r p = 1 := by
    intro r
    induction r with
    | zero => intro p; rfl
    | succ r ih =>
      intro p
      rw [WTr, ih (p + 1), Nat.mul_one]
      unfold wtN wkN
      split <;> rfl
  rw [e, Nat.one_mul]
  rfl
/-! one who holds none -/
theorem none_drop {T Z : Nat → Nat} {q : Nat} (act : Nat → Bool) (m : Nat) : ∀ (L : List Nat) (c : Nat → Nat), Wq (kP T Z q 1 (fun _ _ => 0)) act m L c = Wq (wkN T Z) act m (L.filter (fun x => decide (x ≠ q))) c
  | [], c => rfl
  | p :: L, c => by
    by_cases h : p = q
    · subst h
      rw [List.filter_cons_of_neg (by simp), Wq, none_drop act m L c]
      have z : sm (fun b => if act b = true then sm (fun w => (kP T Z p 1 (fun _ _ => 0)).2.2.2 p b w * Wq (kP T Z p 1 (fun _ _ => 0)) act m L (addc c b ((kP T Z p 1 (fun _ _ => 0)).2.1 p b w))) 10 else 0) m = 0 := by
        refine sm_zero (fun b _ => ?_)
        split
        · refine sm_zero (fun w _ => ?_)
          have : (kP T Z p 1 (fun _ _ => 0)).2.2.2 p b w = 0 := by simp [kP]
          rw [this, Nat.zero_mul]
        · rfl
      have o : (kP T Z p 1 (fun _ _ => 0)).2.2.1 p = 1 := by simp [kP]
      rw [z, o, Nat.one_mul, Nat.add_zero]
    · rw [List.filter_cons_of_pos (by simp [h]), Wq, Wq, none_drop act m L c]
      have o : (kP T Z q 1 (fun _ _ => 0)).2.2.1 p = (wkN T Z).2.2.1 p := by simp [kP, wkN, h]
      rw [o]
      congr 1
      refine sm_cong (fun b _ => ?_)
      by_cases a : act b = true
      · rw [if_pos a, if_pos a]
        refine sm_cong (fun w _ => ?_)
        have o2 : (kP T Z q 1 (fun _ _ => 0)).2.2.2 p b w = (wkN T Z).2.2.2 p b w := by simp [kP, wkN, h]
        rw [o2, none_drop act m L]
        rfl
      · rw [if_neg a, if_neg a]
theorem ls_drop : ∀ P, P ≤ 3 → ∀ q, q < P → ls P (co P (2 ^ q)) = (ls P (co P 0)).filter (fun x => decide (x ≠ q)) := by decide
theorem none_sum {T Z : Nat → Nat} (hP : T 1 ≤ 3) {q : Nat} (hq : q < T 1) : sm (fun way => wt1 1 (fun _ _ => 0) (fig T way q) * good T Z way) (DD T ^ T 1) = WB T Z allT (2 ^ q) := by
  rw [one_sum hP hq, none_drop, WB, ls_drop _ hP q hq]
/-! one who holds a bar -/
theorem Wq_not {T Z : Nat → Nat} {q e0 : Nat} {e : Nat → Nat → Nat} (act : Nat → Bool) (m : Nat) : ∀ (L : List Nat) (c : Nat → Nat), q ∉ L → Wq (kP T Z q e0 e) act m L c = Wq (wkN T Z) act m L c
  | [], c, _ => rfl
  | p :: L, c, h => by
    have hp : p ≠ q := fun z => h (by rw [z]; exact List.mem_cons_self)
    have hL : q ∉ L := fun z => h (List.mem_cons_of_mem _ z)
    rw [Wq, Wq, Wq_not act m L c hL]
    have o : (kP T Z q e0 e).2.2.1 p = (wkN T Z).2.2.1 p := by simp [kP, wkN, hp]
    rw [o]
    congr 1
    refine sm_cong (fun b _ => ?_)
    by_cases a : act b = true
    · rw [if_pos a, if_pos a]
      refine sm_cong (fun w _ => ?_)
      have o2 : (kP T Z q e0 e).2.2.2 p b w = (wkN T Z).2.2.2 p b w := by simp [kP, wkN, hp]
      rw [o2, Wq_not act m L _ hL]
      rfl
    · rw [if_neg a, if_neg a]
theorem Wq_zero {T Z : Nat → Nat} {q b0 : Nat} {e : Nat → Nat → Nat} (he : ∀ b w, b ≠ b0 → e b w = 0) (m : Nat) : ∀ (L : List Nat) (c : Nat → Nat), q ∈ L → Wq (kP T Z q 0 e) (off allT b0) m L c = 0
  | [], c, h => by cases h
  | p :: L, c, h => by
    rw [Wq]
    by_cases hp : p = q
    · subst hp
      have o : (kP T Z p 0 e).2.2.1 p = 0 := by simp [kP]
      rw [o, Nat.zero_mul, Nat.zero_add]
      refine sm_zero (fun b _ => ?_)
      by_cases a : off allT b0 b = true
      · rw [if_pos a]
        refine sm_zero (fun w _ => ?_)
        have hb : b ≠ b0 := fun z => by
          unfold off at a
          rw [if_pos z] at a
          exact absurd a (by decide)
        have o2 : (kP T Z p 0 e).2.2.2 p b w = 0 := by simp [kP, he b w hb]
        rw [o2, Nat.zero_mul]
      · rw [if_neg a]
    · have hL : q ∈ L := by
        rcases List.mem_cons.mp h with z | z
        · exact absurd z.symm hp
        · exact z
      rw [Wq_zero he m L c hL, Nat.mul_zero, Nat.zero_add]
      refine sm_zero (fun b _ => ?_)
      by_cases a : off allT b0 b = true
      · rw [if_pos a]
        refine sm_zero (fun w _ => ?_)
        rw [Wq_zero he m L _ hL, Nat.mul_zero]
      · rw [if_neg a]
theorem ls_co : ∀ P, P ≤ 3 → ∀ s, s < 2 ^ P → ∀ p, p < P → (p ∈ ls P s ↔ p ∉ ls P (co P s)) := by decide +kernel
theorem ls_0 : ∀ P, P ≤ 3 → ls P (co P 0) = ls P (2 ^ P - 1) := by decide
/-- one person on one bar, set by set -/
theorem bar_sum {T Z : Nat → Nat} (hP : T 1 ≤ 3) {q b0 : Nat} (hq : q < T 1) (hb : b0 < T 0) {e : Nat → Nat → Nat} (he : ∀ b w, b ≠ b0 → e b w = 0) : sm (fun way => wt1 0 e (fig T way q) * good T Z way) (DD T ^ T 1) = sm (fun s => if s.testBit q = true then Fq (kP T Z q 0 e) b0 (ls (T 1) s) (bsN T b0) * WB T Z (off allT b0) s else 0) (2 ^ T 1) := by
  rw [one_sum hP hq, Wq_split (kP T Z q 0 e) allT hb rfl, ← hs_all (T 1) hP]
  refine sm_cong (fun s hs => ?_)
  by_cases a : s.testBit q = true
  · rw [if_pos a, Wq_not (off allT b0) (T 0) _ (bsN T) ((ls_co _ hP s hs q hq).mp ((ls_mem _ hP s hs q hq).mp a))]
    rfl
  · have hm : q ∈ ls (T 1) (co (T 1) s) := by
      by_cases z : q ∈ ls (T 1) (co (T 1) s)
      · exact z
      · exact absurd ((ls_mem _ hP s hs q hq).mpr ((ls_co _ hP s hs q hq).mpr z)) a
    rw [if_neg a, Wq_zero he (T 0) _ (bsN T) hm, Nat.mul_zero]
theorem Fq_same {T Z : Nat → Nat} {q b0 e0 : Nat} {e : Nat → Nat → Nat} (he : ∀ w, e b0 w = 1) : ∀ (L : List Nat) (x : Nat), Fq (kP T Z q e0 e) b0 L x = Fq (wkN T Z) b0 L x
  | [], x => rfl
  | p :: L, x => by
    rw [Fq, Fq]
    refine sm_cong (fun w _ => ?_)
    have o2 : (kP T Z q e0 e).2.2.2 p b0 w = (wkN T Z).2.2.2 p b0 w := by
      by_cases h : p = q
      · simp [kP, wkN, h, he w]
      · simp [kP, wkN, h]
    rw [o2, Fq_same he L]
    rfl
theorem hold_sum {T Z : Nat → Nat} (hP : T 1 ≤ 3) {q b0 : Nat} (hq : q < T 1) (hb : b0 < T 0) : sm (fun way => wt1 0 (fun b _ => if b = b0 then 1 else 0) (fig T way q) * good T Z way) (DD T ^ T 1) = HB T Z q b0 := by
  rw [bar_sum hP hq hb (fun b w h => if_neg h)]
  unfold HB
  rw [← hs_all (T 1) hP]
  refine sm_cong (fun s hs => ?_)
  by_cases a : s.testBit q = true
  · rw [if_pos a, if_pos ((ls_mem _ hP s hs q hq).mp a), Fq_same (e := fun b _ => if b = b0 then 1 else 0) (fun w => if_pos rfl)]
    rfl
  · rw [if_neg a, if_neg (fun z => a ((ls_mem _ hP s hs q hq).mpr z))]
/-! a claim -/
theorem Fq_not {T Z : Nat → Nat} {q b0 e0 : Nat} {e : Nat → Nat → Nat} : ∀ (L : List Nat) (x : Nat), q ∉ L → Fq (kP T Z q e0 e) b0 L x = Fq (wkN T Z) b0 L x
  | [], x, _ => rfl
  | p :: L, x, h => by
    have hp : p ≠ q := fun z => h (by rw [z]; exact List.mem_cons_self)
    have hL : q ∉ L := fun z => h (List.mem_cons_of_mem _ z)
    rw [Fq, Fq]
    refine sm_cong (fun w _ => ?_)
    have o2 : (kP T Z q e0 e).2.2.2 p b0 w = (wkN T Z).2.2.2 p b0 w := by simp [kP, wkN, hp]
    rw [o2, Fq_not L _ hL]
    rfl
theorem sm_one {f : Nat → Nat} {n i : Nat} (hi : i < n) (h : ∀ k, k < n → k ≠ i → f k = 0) : sm f n = f i := by
  rw [sm_pick f hi, sm_zero (f := fun k => if k = i then 0 else f k) (fun k hk => by
    by_cases c : k = i
    · exact if_pos c
    · show (if k = i then 0 else f k) = 0
      rw [if_neg c]
      exact h k hk c), Nat.add_zero]
theorem Fq_claim {T Z : Nat → Nat} {q b0 w0 : Nat} (hw : w0 < 10) : ∀ (L : List Nat) (x : Nat), q ∈ L → L.Nodup → Fq (kP T Z q 0 (fun b w => if b = b0 ∧ w = w0 then 1 else 0)) b0 L x = Fq (wkN T Z) b0 (L.filter (fun y => decide (y ≠ q))) (x + lvN T q b0 w0)
  | [], x, h, _ => by cases h
  | p :: L, x, h, hn => by
    have hn2 := List.nodup_cons.mp hn
    by_cases hp : p = q
    · subst hp
      rw [List.filter_cons_of_neg (by simp), Fq, sm_one hw (fun k _ hk => by
        have o : (kP T Z p 0 (fun b w => if b = b0 ∧ w = w0 then 1 else 0)).2.2.2 p b0 k = 0 := by simp [kP, hk]
        rw [o, Nat.zero_mul])]
      have o : (kP T Z p 0 (fun b w => if b = b0 ∧ w = w0 then 1 else 0)).2.2.2 p b0 w0 = 1 := by simp [kP]
      have fl : L.filter (fun y => decide (y ≠ p)) = L := List.filter_eq_self.mpr (fun a ha => by
        have : a ≠ p := fun z => hn2.1 (z ▸ ha)
        simp [this])
      rw [o, Nat.one_mul, Fq_not L _ hn2.1, fl]
      rfl
    · have hL : q ∈ L := by
        rcases List.mem_cons.mp h with z | z
        · exact absurd z.symm hp
        · exact z
      rw [List.filter_cons_of_pos (by simp [hp]), Fq, Fq]
      refine sm_cong (fun w _ => ?_)
      have o2 : (kP T Z q 0 (fun b w => if b = b0 ∧ w = w0 then 1 else 0)).2.2.2 p b0 w = (wkN T Z).2.2.2 p b0 w := by simp [kP, wkN, hp]
      rw [o2, Fq_claim hw L _ hL hn2.2]
      have e : x + (kP T Z q 0 (fun b w => if b = b0 ∧ w = w0 then 1 else 0)).2.1 p b0 w + lvN T q b0 w0 = x + lvN T q b0 w0 + (wkN T Z).2.1 p b0 w := by
        show x + lvN T p b0 w + lvN T q b0 w0 = x + lvN T q b0 w0 + lvN T p b0 w
        omega
      rw [e]
theorem ls_xor : ∀ P, P ≤ 3 → ∀ s, s < 2 ^ P → ∀ q, q < P → s.testBit q = true → ls P (s ^^^ 2 ^ q) = (ls P s).filter (fun y => decide (y ≠ q)) := by decide +kernel
theorem ls_nd : ∀ P, P ≤ 3 → ∀ s, s < 2 ^ P → (ls P s).Nodup := by decide +kernel
theorem claim_sum {T Z : Nat → Nat} (hP : T 1 ≤ 3) {q b0 w : Nat} (hq : q < T 1) (hb : b0 < T 0) (hw1 : 1 ≤ w) (hw : w ≤ 10) : 0 < sm (fun way => wt1 0 (fun b v => if b = b0 ∧ v = w - 1 then 1 else 0) (fig T way q) * good T Z way) (DD T ^ T 1) ↔ CAN T Z q b0 w = true := by
  rw [bar_sum hP hq hb (fun b v h => if_neg (fun z => h z.1))]
  have e : ∀ s, s < 2 ^ T 1 → s.testBit q = true → Fq (kP T Z q 0 (fun b v => if b = b0 ∧ v = w - 1 then 1 else 0)) b0 (ls (T 1) s) (bsN T b0) = Fq (wkN T Z) b0 (ls (T 1) (s ^^^ 2 ^ q)) (bsN T b0 + lvN T q b0 (w - 1)) := by
    intro s hs a
    rw [Fq_claim (by omega) _ _ ((ls_mem _ hP s hs q hq).mp a) (ls_nd _ hP s hs), ls_xor _ hP s hs q hq a]
  constructor
  · intro h
    obtain ⟨s, hs, h2⟩ := sm_pos h
    by_cases a : s.testBit q = true
    · rw [if_pos a, e s hs a] at h2
      refine anyB_t hs ?_
      unfold cank
      have p1 := Nat.pos_of_mul_pos_right h2
      have p2 := Nat.pos_of_mul_pos_left h2
      rw [a]
      simp only [Bool.true_and, Bool.and_eq_true, decide_eq_true_eq]
      constructor <;> assumption
    · rw [if_neg a] at h2
      exact absurd h2 (Nat.lt_irrefl 0)
  · intro h
    obtain ⟨s, hs, h2⟩ := anyB_ex h
    unfold cank at h2
    simp only [Bool.and_eq_true, decide_eq_true_eq] at h2
    obtain ⟨a, b, c⟩ := h2
    refine Nat.lt_of_lt_of_le ?_ (sm_part hs)
    rw [if_pos a, e s hs a]
    exact Nat.mul_pos c b
/-! what a bar not seen would have -/
def kT (T Z : Nat → Nat) (b0 t : Nat) : WK := (fun b x => if b = b0 then (if x = bsN T b0 + t then 1 else 0) else okN Z b x, lvN T, fun _ => 1, fun _ _ _ => 1)
theorem Fq_shift {T Z : Nat → Nat} {b0 t : Nat} : ∀ (L : List Nat) (x : Nat), Fq (kT T Z b0 t) b0 L (bsN T b0 + x) = Fq (kS T t) b0 L x
  | [], x => by
    show (if b0 = b0 then (if bsN T b0 + x = bsN T b0 + t then 1 else 0) else okN Z b0 _) = if x = t then 1 else 0
    rw [if_pos rfl]
    by_cases c : x = t
    · rw [if_pos (by omega), if_pos c]
    · rw [if_neg (by omega), if_neg c]
  | p :: L, x => by
    rw [Fq, Fq]
    refine sm_cong (fun w _ => ?_)
    rw [Nat.add_assoc, Fq_shift L]
    rfl
theorem Wq_off {T Z : Nat → Nat} {b0 t : Nat} (m : Nat) : ∀ (L : List Nat) (c : Nat → Nat), Wq (kT T Z b0 t) (off allT b0) m L c = Wq (wkN T Z) (off allT b0) m L c
  | [], c => by
    rw [Wq, Wq]
    refine pd_cong (fun b _ => ?_)
    by_cases a : off allT b0 b = true
    · have hb : b ≠ b0 := fun z => by
        unfold off at a
        rw [if_pos z] at a
        exact absurd a (by decide)
      rw [if_pos a, if_pos a]
      show (if b = b0 then _ else okN Z b (c b)) = okN Z b (c b)
      rw [if_neg hb]
    · rw [if_neg a, if_neg a]
  | p :: L, c => by
    rw [Wq, Wq, Wq_off m L c]
    congr 1
    refine sm_cong (fun b _ => ?_)
    by_cases a : off allT b0 b = true
    · rw [if_pos a, if_pos a]
      refine sm_cong (fun w _ => ?_)
      rw [Wq_off m L]
      rfl
    · rw [if_neg a, if_neg a]
theorem left_sum {T Z : Nat → Nat} (hP : T 1 ≤ 3) {b0 t : Nat} (hb : b0 < T 0) (hz : Z b0 = 0) : sm (fun way => if hw (wkN T Z) T way (T 1) b0 = bsN T b0 + t then good T Z way else 0) (DD T ^ T 1) = sm (LWs T Z b0 t) (2 ^ T 1) := by
  have e : ∀ way, (if hw (wkN T Z) T way (T 1) b0 = bsN T b0 + t then good T Z way else 0) = WTr (kT T Z b0 t) T way (T 1) 0 * pd (fun b => (kT T Z b0 t).1 b (hw (kT T Z b0 t) T way (T 1) b)) (T 0) := by
    intro way
    have e1 : ∀ (r p : Nat), WTr (kT T Z b0 t) T way r p = 1 := by
      intro r
      induction r with
      | zero => intro p; rfl
      | succ r ih =>
        intro p
        rw [WTr, ih (p + 1), Nat.mul_one]
        unfold wtN kT
        split <;> rfl
    rw [e1, Nat.one_mul, hw_k (k := kT T Z b0 t) (k2 := wkN T Z) rfl, good, pd_pick _ hb, pd_pick (fun b => (kT T Z b0 t).1 b (hw (wkN T Z) T way (T 1) b)) hb]
    have e2 : okN Z b0 (hw (wkN T Z) T way (T 1) b0) = 1 := by
      unfold okN
      rw [if_pos (Or.inl hz)]
    have e3 : (kT T Z b0 t).1 b0 (hw (wkN T Z) T way (T 1) b0) = if hw (wkN T Z) T way (T 1) b0 = bsN T b0 + t then 1 else 0 := by
      show (if b0 = b0 then _ else _) = _
      rw [if_pos rfl]
    have e4 : pd (fun i => if i = b0 then 1 else (kT T Z b0 t).1 i (hw (wkN T Z) T way (T 1) i)) (T 0) = pd (fun i => if i = b0 then 1 else okN Z i (hw (wkN T Z) T way (T 1) i)) (T 0) := by
      refine pd_cong (fun i _ => ?_)
      by_cases c : i = b0
      · rw [if_pos c, if_pos c]
      · rw [if_neg c, if_neg c]
        show (if i = b0 then _ else okN Z i _) = _
        rw [if_neg c]
    rw [e2, e3, e4, Nat.one_mul]
    split
    · rw [Nat.one_mul]
    · rw [Nat.zero_mul]
  rw [sm_cong (fun way _ => e way), ways_sum _ T hP, Wq_split (kT T Z b0 t) allT hb rfl, ← hs_all (T 1) hP]
  refine sm_cong (fun s _ => ?_)
  have f := Fq_shift (T := T) (Z := Z) (b0 := b0) (t := t) (ls (T 1) s) 0
  rw [Nat.add_zero] at f
  rw [f, Wq_off, Nat.mul_comm]
  rfl
