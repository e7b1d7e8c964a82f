/-! claim, saves. -/
def gb (x : Int32) (w : Nat) : Bool := x.toBitVec.getLsbD w
theorem gb_or (x y : Int32) (w : Nat) : gb (x ||| y) w = (gb x w || gb y w) := by
  unfold gb
  rw [Int32.toBitVec_or, BitVec.getLsbD_or]
theorem gb_sh : ∀ v, v < 20 → ∀ w, w < 20 → gb ((1 : Int32) <<< (nI v &&& 31)) w = decide (v = w) := by decide +kernel
theorem gb_0 (w : Nat) : gb 0 w = false := by
  unfold gb
  simp
theorem bit1 (A : BitVec 32) (w : Nat) (hw : w < 32) : A.sshiftRight w &&& 1#32 = if A.getLsbD w then 1#32 else 0#32 := by
  apply BitVec.eq_of_getLsbD_eq
  intro j hj
  rw [BitVec.getLsbD_and, BitVec.getLsbD_sshiftRight]
  by_cases c : j = 0
  · subst c
    by_cases g : A.getLsbD w = true
    · rw [if_pos g]
      simp [hw, g]
    · have g2 : A.getLsbD w = false := by
        cases h : A.getLsbD w with
        | false => rfl
        | true => exact absurd h g
      rw [if_neg g, Nat.add_zero, if_pos hw, g2]
      rfl
  · have e : (1#32).getLsbD j = false := by
      rw [BitVec.getLsbD_one]
      simp [c]
    rw [e, Bool.and_false]
    split
    · exact e.symm
    · simp
theorem bit_ok (x : Int32) : ∀ w, w < 20 → ((x >>> (nI w &&& 31)) &&& 1) = if gb x w = true then 1 else 0 := by
  intro w hw
  have e : ∀ w, w < 20 → (nI w &&& 31).toBitVec.smod 32 = BitVec.ofNat 32 w := by decide +kernel
  apply Int32.toBitVec_inj.mp
  rw [Int32.toBitVec_and, Int32.toBitVec_shiftRight, e w hw]
  have e2 : x.toBitVec.sshiftRight' (BitVec.ofNat 32 w) = x.toBitVec.sshiftRight w := by
    unfold BitVec.sshiftRight'
    rw [BitVec.toNat_ofNat, Nat.mod_eq_of_lt (by omega)]
  rw [e2]
  have b := bit1 x.toBitVec w (by omega)
  have e3 : (1 : Int32).toBitVec = 1#32 := rfl
  rw [e3, b]
  unfold gb
  split <;> rfl
def clI (T Z : Nat → Nat) (p b : Nat) : Nat → Int32
  | 0 => 0
  | i + 1 => if bcI T p i = nI b ∧ good T Z i ≠ 0 then clI T Z p b i ||| (1 <<< (nI ((fig T i p - 1) % 10 + 1) &&& 31)) else clI T Z p b i ||| 0
def isC (T Z : Nat → Nat) (p b w k : Nat) : Prop := good T Z k ≠ 0 ∧ bcI T p k = nI b ∧ (fig T k p - 1) % 10 + 1 = w
theorem cl_gb {T Z : Nat → Nat} {p b w : Nat} (hw : w < 20) : ∀ i, gb (clI T Z p b i) w = true ↔ ∃ k, k < i ∧ isC T Z p b w k
  | 0 => by
    rw [clI, gb_0]
    constructor
    · intro q
      cases q
    · intro ⟨k, hk, _⟩
      omega
  | i + 1 => by
    have ih := cl_gb hw (T := T) (Z := Z) (p := p) (b := b) i
    rw [clI]
    by_cases c : bcI T p i = nI b ∧ good T Z i ≠ 0
    · rw [if_pos c, gb_or, gb_sh _ (by have := Nat.mod_lt (fig T i p - 1) (show 0 < 10 by omega); omega) w hw, Bool.or_eq_true, decide_eq_true_eq, ih]
      constructor
      · rintro (⟨k, hk, hc⟩ | d)
        · exact ⟨k, by omega, hc⟩
        · exact ⟨i, by omega, c.2, c.1, d⟩
      · rintro ⟨k, hk, hc⟩
        by_cases d : k = i
        · rw [d] at hc
          exact Or.inr hc.2.2
        · exact Or.inl ⟨k, by omega, hc⟩
    · rw [if_neg c, gb_or, gb_0, Bool.or_false, ih]
      constructor
      · rintro ⟨k, hk, hc⟩
        exact ⟨k, by omega, hc⟩
      · rintro ⟨k, hk, hc⟩
        by_cases d : k = i
        · rw [d] at hc
          exact absurd ⟨hc.2.1, hc.1⟩ c
        · exact ⟨k, by omega, hc⟩
theorem cl_can {T Z : Nat → Nat} (hT : T 0 ≤ 6 ∧ T 1 ≤ 3) {p b w : Nat} (hp : p < T 1) (hb : b < T 0) (hw1 : 1 ≤ w) (hw : w ≤ 10) : gb (clI T Z p b (DD T ^ T 1)) w = CAN T Z p b w := by
  have h1 := cl_gb (T := T) (Z := Z) (p := p) (b := b) (show w < 20 by omega) (DD T ^ T 1)
  have h2 := claim_sum (T := T) (Z := Z) hT.2 hp hb hw1 hw
  have e : (∃ k, k < DD T ^ T 1 ∧ isC T Z p b w k) ↔ 0 < sm (fun way => wt1 0 (fun c v => if c = b ∧ v = w - 1 then 1 else 0) (fig T way p) * good T Z way) (DD T ^ T 1) := by
    constructor
    · rintro ⟨k, hk, g, hc, hv⟩
      refine Nat.lt_of_lt_of_le ?_ (sm_part hk)
      show 0 < wt1 0 (fun c v => if c = b ∧ v = w - 1 then 1 else 0) (fig T k p) * good T Z k
      unfold bcI at hc
      by_cases z : fig T k p = 0
      · rw [if_pos z] at hc
        exfalso
        have q2 := congrArg Int32.toInt hc
        rw [nI_toInt (by omega)] at q2
        have : (-4 : Int32).toInt = -4 := by decide
        omega
      · rw [if_neg z] at hc
        have hb2 := bcI_lt p k z
        have hc2 := nI_inj (by omega) (by omega) hc
        unfold wt1
        rw [if_neg z]
        show 0 < (if (fig T k p - 1) / 10 = b ∧ (fig T k p - 1) % 10 = w - 1 then 1 else 0) * good T Z k
        rw [if_pos ⟨hc2, by omega⟩, Nat.one_mul]
        omega
    · intro h
      obtain ⟨k, hk, h3⟩ := sm_pos h
      refine ⟨k, hk, ?_⟩
      have h4 : 0 < wt1 0 (fun c v => if c = b ∧ v = w - 1 then 1 else 0) (fig T k p) * good T Z k := h3
      have g : good T Z k ≠ 0 := fun z => by
        rw [z, Nat.mul_zero] at h4
        exact absurd h4 (Nat.lt_irrefl 0)
      have u : wt1 0 (fun c v => if c = b ∧ v = w - 1 then 1 else 0) (fig T k p) ≠ 0 := fun z => by
        rw [z, Nat.zero_mul] at h4
        exact absurd h4 (Nat.lt_irrefl 0)
      unfold wt1 at u
      by_cases z : fig T k p = 0
      · rw [if_pos z] at u
        exact absurd rfl u
      · rw [if_neg z] at u
        by_cases y : (fig T k p - 1) / 10 = b ∧ (fig T k p - 1) % 10 = w - 1
        · refine ⟨g, ?_, by omega⟩
          unfold bcI
          rw [if_neg z, y.1]
        · have u' : (if (fig T k p - 1) / 10 = b ∧ (fig T k p - 1) % 10 = w - 1 then 1 else 0) ≠ 0 := u
          rw [if_neg y] at u'
          exact absurd rfl u'
  rw [e, h2] at h1
  cases x : CAN T Z p b w with
  | true => exact h1.mpr x
  | false =>
    cases y : gb (clI T Z p b (DD T ^ T 1)) w with
    | false => rfl
    | true =>
      rw [h1.mp y] at x
      cases x
theorem cl_no {T Z : Nat → Nat} {p b w n : Nat} (hw : w < 20) (h : w = 0 ∨ 10 < w) : gb (clI T Z p b n) w = false := by
  cases y : gb (clI T Z p b n) w with
  | false => rfl
  | true =>
    obtain ⟨k, _, _, _, hc⟩ := (cl_gb hw n).mp y
    have := Nat.mod_lt (fig T k p - 1) (show 0 < 10 by omega)
    omega
theorem claims_loop {T X Z : Nat → Nat} {p b : Nat} (hp : p < 3) (hb : b < T 0) {kx : St → Int32 → Prop} : ∀ (j i : Nat) (S : St), i + j = DD T ^ T 1 → RAIL S T → NOW S T X Z → LAYS S T → (∀ S2 : St, FR [58] S S2 → kx S2 (clI T Z p b (DD T ^ T 1))) → X7_claims_L9 (nI p) (nI b) kx (j + 1) S (clI T Z p b i) (nI i)
  | 0, i, S, hi, hR, hW, hL, h => by
    have hD := DD_le (T := T) ⟨hR.1.1, hR.1.2.1⟩
    obtain rfl : i = DD T ^ T 1 := by omega
    rw [X7_claims_L9]
    exact pk_le (DD T ^ T 1) (DD T ^ T 1) (fun _ => h S FR.rf) (fun c => absurd c (by omega)) hL.2.2 rfl
  | j + 1, i, S, hi, hR, hW, hL, h => by
    have hD := DD_le (T := T) ⟨hR.1.1, hR.1.2.1⟩
    have ih := fun (S2 : St) (f : FR [58] S S2) => claims_loop hp hb j (i + 1) S2 (by omega) (hR.fr f) (hW.fr f) (hL.fr f) (fun S3 f3 => h S3 (f.tr f3))
    rw [clI] at ih
    rw [X7_claims_L9]
    refine pk_le (DD T ^ T 1) i (fun c => absurd c (by omega)) (fun _ => figureOf_ok hR (by omega) hp (barOf_ok hR.1.1 p i (nm_e (nm_e ?_)))) hL.2.2 rfl
    by_cases c : bcI T p i = nI b
    · refine nb_f c (isWay_ok hR hW hL (by omega) (fun S2 f _ => ?_))
      have hg := good_le T Z i
      refine pk_eq (good T Z i) 0 (fun g => br_t rfl ?_) (fun g => br_f (by decide) ⟨by decide, ?_⟩) rfl rfl
      · rintro _ rfl _ rfl
        have ih2 := ih S2 f
        rw [if_neg (fun q => q.2 g)] at ih2
        rw [nI_1]
        exact ih2
      · have hf := fig_lt (T := T) i p
        have hB := hR.1.1
        have hD2 : DD T ≤ 61 := hD.2.1
        have f0 : fig T i p ≠ 0 := fun z => by
          unfold bcI at c
          rw [if_pos z] at c
          have q2 := congrArg Int32.toInt c
          rw [nI_toInt (by omega)] at q2
          have : (-4 : Int32).toInt = -4 := by decide
          omega
        have es : (nI (fig T i p) - 1 - (nI (fig T i p) - 1) / 10 * 10) + 1 = nI ((fig T i p - 1) % 10 + 1) := by
          rw [nI_m1 _ (by omega), show (10 : Int32) = nI 10 from rfl, nI_mod (by omega) (by omega), nI_1]
        rw [es]
        rintro _ rfl _ rfl
        have ih2 := ih S2 f
        rw [if_pos ⟨c, g⟩] at ih2
        rw [nI_1]
        exact ih2
    · refine nb_t c (br_t rfl ?_)
      rintro _ rfl _ rfl
      have ih2 := ih S FR.rf
      rw [if_neg (fun q => c q.1)] at ih2
      rw [nI_1]
      exact ih2
theorem claims_ok {S S0 : St} {T X Z : Nat → Nat} (f0 : FR scr S0 S) (hR : RAIL S0 T) (hW : NOW S0 T X Z) {p b : Nat} (hp : p < T 1) (hb : b < T 0) {Q : Int32 → St → Prop} (h : ∀ S2 : St, FR scr S0 S2 → Q (clI T Z p b (DD T ^ T 1)) S2) : w_X7_claims S (nI p) (nI b) Q := by
  have hP := hR.1.2.1
  unfold w_X7_claims
  refine lays_ok (hR.fr f0) (fun S4 f4 l4 => ?_)
  have f04 : FR scr S0 S4 := f0.tr (f4.mono (by decide))
  exact ⟨DD T ^ T 1 + 1, claims_loop (X := X) (by omega) hb (DD T ^ T 1) 0 S4 (by omega) (hR.fr f04) (hW.fr f04) l4 (fun S5 f5 => h S5 (f04.tr (f5.mono (by decide))))⟩
/-- is it a claim, in both -/
theorem claim_cases {S : St} {T : Nat → Nat} (hR : RAIL S T) (x y z : Int32) : (∃ p b w, p < T 1 ∧ b < T 0 ∧ 1 ≤ w ∧ w ≤ 10 ∧ x = nI p ∧ y = nI b ∧ z = nI w ∧ (∀ (S2 : St) (L : List Nat) (Q : Int32 → Prop), FR L S S2 → (∀ c, c ∈ [1200, 1201, 1202, 12, 13, 14, 15, 16, 17, 51] → c ∉ L) → Q 1 → w_X6_isClaim S2 x y z Q) ∧ (∀ (S2 : St) (L : List Nat) (Q : Int32 → Prop), FR L S S2 → (∀ c, c ∈ [1200, 1201, 1202, 12, 13, 14, 15, 16, 17, 51] → c ∉ L) → Q 1 → w_X7_isClaim S2 x y z Q)) ∨ ((∀ Q : Int32 → Prop, Q 0 → w_X6_isClaim S x y z Q) ∧ (∀ Q : Int32 → Prop, Q 0 → w_X7_isClaim S x y z Q)) := by
  rcases person_cases hR x with ⟨p, hp, rfl⟩ | ⟨g1, g2⟩
  · rcases bar_cases hR y with ⟨b, hb, rfl⟩ | ⟨g1, g2⟩
    · rcases rng_cases z 1 10 (by omega) (by omega) with ⟨w, hw1, hw, rfl⟩ | gz
      · refine Or.inl ⟨p, b, w, hp, hb, hw1, hw, rfl, rfl, rfl, fun S2 L Q f hL q => ?_, fun S2 L Q f hL q => ?_⟩
        · have hR2 := hR.fr f hL
          unfold w_X6_isClaim
          exact hasPerson_in hR2.2.1.2.1 hR2.1.2.1 hp (br_f (by decide) (hasBar_in hR2.2.1.1 hR2.1.1 hb (br_f (by decide) (within_in 1 10 w hw1 hw (br_f (by decide) q)))))
        · have hR2 := hR.fr f hL
          unfold w_X7_isClaim
          exact isPerson_in (hR2.2.2.1 1 (by omega)) hR2.1.2.1 hp (br_f (by decide) (isBar_in (hR2.2.2.1 0 (by omega)) hR2.1.1 hb (br_f (by decide) (in_in 1 10 w hw1 hw (br_f (by decide) q)))))
      · refine Or.inr ⟨fun Q q => ?_, fun Q q => ?_⟩
        · unfold w_X6_isClaim
          exact hasPerson_in hR.2.1.2.1 hR.1.2.1 hp (br_f (by decide) (hasBar_in hR.2.1.1 hR.1.1 hb (br_f (by decide) (within_out gz (br_t rfl q)))))
        · unfold w_X7_isClaim
          exact isPerson_in (hR.2.2.1 1 (by omega)) hR.1.2.1 hp (br_f (by decide) (isBar_in (hR.2.2.1 0 (by omega)) hR.1.1 hb (br_f (by decide) (in_out gz (br_t rfl q)))))
    · refine Or.inr ⟨fun Q q => ?_, fun Q q => ?_⟩
      · unfold w_X6_isClaim
        exact hasPerson_in hR.2.1.2.1 hR.1.2.1 hp (br_f (by decide) (hasBar_out g1 (br_t rfl q)))
      · unfold w_X7_isClaim
        exact isPerson_in (hR.2.2.1 1 (by omega)) hR.1.2.1 hp (br_f (by decide) (isBar_out g2 (br_t rfl q)))
  · refine Or.inr ⟨fun Q q => ?_, fun Q q => ?_⟩
    · unfold w_X6_isClaim
      exact hasPerson_out g1 (br_t rfl q)
    · unfold w_X7_isClaim
      exact isPerson_out g2 (br_t rfl q)
theorem ok_claim {S : St} (h : INV S) (x y z : Int32) : w_X6_claim S x y z (fun r S1 => w_X7_claim S1 x y z (fun r2 S2 => r = r2 ∧ INV S2)) := by
  have hI := h
  obtain ⟨T, X, Z, nt, hR, hW, hT, h0, h1, ht⟩ := h
  have hB : T 0 ≤ 6 ∧ T 1 ≤ 3 := ⟨hR.1.1, hR.1.2.1⟩
  unfold w_X6_claim
  rcases claim_cases hR x y z with ⟨p, b, w, hp, hb, hw1, hw, rfl, rfl, rfl, c6, c7⟩ | ⟨c6, c7⟩
  · have hcc := cl_can (Z := Z) hB hp hb hw1 hw
    have mod : ∀ (S3 : St) (v : Int32), FR scr S S3 → v = (if CAN T Z p b w = true then 1 else 0) → w_X7_claim S3 (nI p) (nI b) (nI w) (fun r2 S4 => v = r2 ∧ INV S4) := by
      intro S3 v f3 hv
      unfold w_X7_claim
      refine c7 S3 scr _ f3 (by decide) (br_f (by decide) (claims_ok f3 hR hW hp hb (fun S4 f4 => ⟨?_, hI.frame f4⟩)))
      rw [bit_ok _ w (by omega), hcc, hv]
    refine c6 S scr _ FR.rf (by decide) (nb_t (by decide) (learn_ok hR hW (fun S1 f1 l1 => ?_)))
    refine canHave_ok (hR.fr f1) (hW.fr f1) l1 hb hp hw hw1 (fun c S2 f2 _ => br_f (by decide) ?_) (fun c S2 f2 _ => br_t rfl ?_)
    · exact mod S2 _ (f1.tr (f2.mono (by decide))) (by rw [c, if_pos rfl])
    · exact mod S2 _ (f1.tr (f2.mono (by decide))) (by rw [c]; rfl)
  · refine c6 _ (nb_f rfl ?_)
    unfold w_X7_claim
    exact c7 _ (br_t rfl ⟨rfl, hI⟩)
/-- the nearest winters -/
def savN (T Z : Nat → Nat) (p b w : Nat) : Nat → Nat → Int32
  | 0, _ => -9
  | j + 1, i => if i < w ∧ CAN T Z p b (w - i) = true then nI (w - i) else if w + i ≤ 10 ∧ CAN T Z p b (w + i) = true then nI (w + i) else savN T Z p b w j (i + 1)
theorem saves_c {T X Z : Nat → Nat} {p b w : Nat} (hp : p < T 1) (hb : b < T 0) (hw1 : 1 ≤ w) (hw : w ≤ 10) {Q : Int32 → St → Prop} {kx : St → Prop} : ∀ (j i : Nat) (S : St), i + j = 10 → RAIL S T → NOW S T X Z → LEARN S T Z → (∀ S2 v, FR [44] S S2 → v = savN T Z p b w j i → v ≠ -9 → Q v S2) → (∀ S2, FR [44] S S2 → savN T Z p b w j i = -9 → kx S2) → X6_saves_L30 (nI p) (nI b) (nI w) Q kx (j + 1) S (nI i)
  | 0, i, S, hi, hR, hW, hL, h1, h2 => by
    obtain rfl : i = 10 := by omega
    rw [X6_saves_L30]
    exact pk_le 10 10 (fun _ => h2 S FR.rf rfl) (fun c => absurd c (by omega)) rfl rfl
  | j + 1, i, S, hi, hR, hW, hL, h1, h2 => by
    rw [X6_saves_L30]
    refine pk_le 10 i (fun c => absurd c (by omega)) (fun _ => nm_e ?_) rfl rfl
    rw [savN] at h1 h2
    have next : ∀ S2, FR [44] S S2 → LEARN S2 T Z → ¬ (i < w ∧ CAN T Z p b (w - i) = true) → ¬ (w + i ≤ 10 ∧ CAN T Z p b (w + i) = true) → X6_saves_L30 (nI p) (nI b) (nI w) Q kx (j + 1) S2 (nI i + 1) := by
      intro S2 f l n1 n2
      rw [if_neg n1, if_neg n2] at h1 h2
      rw [nI_1]
      exact saves_c hp hb hw1 hw j (i + 1) S2 (by omega) (hR.fr f) (hW.fr f) l (fun S3 v f3 a b => h1 S3 v (f.tr f3) a b) (fun S3 f3 a => h2 S3 (f.tr f3) a)
    have j8 : ∀ S2, FR [44] S S2 → LEARN S2 T Z → ¬ (i < w ∧ CAN T Z p b (w - i) = true) → ((10 < (nI w + nI i) → ∀ x10 : Int32, x10 = nI i + (1 : Int32) → X6_saves_L30 (nI p) (nI b) (nI w) Q kx (j + 1) S2 x10) ∧ (¬ 10 < (nI w + nI i) → (w_X5_canHaveHeld S2 (nI p) (nI b) (nI w + nI i) (fun r11 S12 => ((r11 = 0 → ∀ x13 : Int32, x13 = nI i + (1 : Int32) → X6_saves_L30 (nI p) (nI b) (nI w) Q kx (j + 1) S12 x13) ∧ (¬ r11 = 0 → Q (nI w + nI i) S12)))))) := by
      intro S2 f l n1
      rw [nI_add]
      refine pk_lt 10 (w + i) (fun c => ?_) (fun c => ?_) rfl rfl
      · rintro _ rfl
        exact next S2 f l n1 (fun q => absurd q.1 (by omega))
      · refine canHave_ok (hR.fr f) (hW.fr f) l hb hp (by omega) (by omega) (fun c2 S3 f3 l3 => br_f (by decide) ?_) (fun c2 S3 f3 l3 => br_t rfl ?_)
        · exact h1 S3 _ (f.tr f3) (by rw [if_neg n1, if_pos ⟨by omega, c2⟩]) (ne9 (by omega))
        · rintro _ rfl
          exact next S3 (f.tr f3) l3 n1 (fun q => by rw [c2] at q; exact absurd q.2 (by decide))
    by_cases c : i < w
    · rw [pk_sub (by omega : i ≤ w)]
      refine pk_lt (w - i) 1 (fun d => absurd d (by omega)) (fun _ => ?_) rfl rfl
      refine canHave_ok hR hW hL hb hp (by omega) (by omega) (fun c2 S3 f3 l3 => br_f (by decide) ?_) (fun c2 S3 f3 l3 => br_t rfl ?_)
      · exact h1 S3 _ f3 (by rw [if_pos ⟨c, c2⟩]) (ne9 (by omega))
      · exact j8 S3 f3 l3 (fun q => by rw [c2] at q; exact absurd q.2 (by decide))
    · refine br_t ?_ (j8 S FR.rf hL (fun q => c q.1))
      by_cases d : i = w
      · subst d
        rw [pk_sub (Nat.le_refl i), Nat.sub_self]
        decide
      · rw [Int32.lt_iff_toInt_lt, sub_lt0 (by omega) (by omega) (by omega)]
        have : (1 : Int32).toInt = 1 := rfl
        omega
theorem saves_m {S : St} {T Z : Nat → Nat} (hT : T 0 ≤ 6 ∧ T 1 ≤ 3) {p b w : Nat} (hp : p < T 1) (hb : b < T 0) (hw1 : 1 ≤ w) (hw : w ≤ 10) {Q : Int32 → St → Prop} {kx : Prop} : ∀ (j i : Nat), i + j = 10 → (∀ v, v = savN T Z p b w j i → v ≠ -9 → Q v S) → (savN T Z p b w j i = -9 → kx) → X7_saves_L23 S (nI w) (clI T Z p b (DD T ^ T 1)) Q kx (j + 1) (nI i)
  | 0, i, hi, h1, h2 => by
    obtain rfl : i = 10 := by omega
    rw [X7_saves_L23]
    exact pk_le 10 10 (fun _ => h2 rfl) (fun c => absurd c (by omega)) rfl rfl
  | j + 1, i, hi, h1, h2 => by
    rw [X7_saves_L23]
    refine pk_le 10 i (fun c => absurd c (by omega)) (fun _ => nm_e ?_) rfl rfl
    rw [savN] at h1 h2
    have j8 : ¬ (i < w ∧ CAN T Z p b (w - i) = true) → ((¬ ((clI T Z p b (DD T ^ T 1) >>> ((nI w + nI i) &&& 31)) &&& 1) = 1 → ∀ x9 : Int32, x9 = nI i + (1 : Int32) → X7_saves_L23 S (nI w) (clI T Z p b (DD T ^ T 1)) Q kx (j + 1) x9) ∧ (((clI T Z p b (DD T ^ T 1) >>> ((nI w + nI i) &&& 31)) &&& 1) = 1 → Q (nI w + nI i) S)) := by
      intro n1
      rw [nI_add, bit_ok _ (w + i) (by omega)]
      by_cases c : w + i ≤ 10
      · rw [cl_can hT hp hb (by omega) c]
        by_cases d : CAN T Z p b (w + i) = true
        · rw [if_pos d]
          exact nb_f rfl (h1 _ (by rw [if_neg n1, if_pos ⟨c, d⟩]) (ne9 (by omega)))
        · rw [if_neg d]
          refine nb_t (by decide) ?_
          rintro _ rfl
          rw [if_neg n1, if_neg (fun q => d q.2)] at h1 h2
          rw [nI_1]
          exact saves_m hT hp hb hw1 hw j (i + 1) (by omega) h1 h2
      · rw [cl_no (by omega) (Or.inr (by omega)), if_neg (by decide)]
        refine nb_t (by decide) ?_
        rintro _ rfl
        rw [if_neg n1, if_neg (fun q => c q.1)] at h1 h2
        rw [nI_1]
        exact saves_m hT hp hb hw1 hw j (i + 1) (by omega) h1 h2
    refine pk_le w i (fun c => j8 (fun q => absurd q.1 (by omega))) (fun c => ?_) rfl rfl
    rw [pk_sub (by omega : i ≤ w), bit_ok _ (w - i) (by omega), cl_can hT hp hb (by omega) (by omega)]
    by_cases d : CAN T Z p b (w - i) = true
    · rw [if_pos d]
      exact nb_f rfl (h1 _ (by rw [if_pos ⟨c, d⟩]) (ne9 (by omega)))
    · rw [if_neg d]
      exact nb_t (by decide) (j8 (fun q => d q.2))
theorem ok_saves {S : St} (h : INV S) (x y z : Int32) : w_X6_saves S x y z (fun r S1 => w_X7_saves S1 x y z (fun r2 S2 => r = r2 ∧ INV S2)) := by
  have hI := h
  obtain ⟨T, X, Z, nt, hR, hW, hT, h0, h1, ht⟩ := h
  have hB : T 0 ≤ 6 ∧ T 1 ≤ 3 := ⟨hR.1.1, hR.1.2.1⟩
  unfold w_X6_saves
  rcases claim_cases hR x y z with ⟨p, b, w, hp, hb, hw1, hw, rfl, rfl, rfl, c6, c7⟩ | ⟨c6, c7⟩
  · have mod : ∀ (S3 : St) (v : Int32), FR scr S S3 → v = savN T Z p b w 10 0 → w_X7_saves S3 (nI p) (nI b) (nI w) (fun r2 S4 => v = r2 ∧ INV S4) := by
      intro S3 v f3 hv
      unfold w_X7_saves
      refine c7 S3 scr _ f3 (by decide) (nb_t (by decide) (claims_ok f3 hR hW hp hb (fun S4 f4 => ?_)))
      exact ⟨11, saves_m hB hp hb hw1 hw 10 0 (by omega) (fun v2 a _ => ⟨hv.trans a.symm, hI.frame f4⟩) (fun a => ⟨hv.trans a, hI.frame f4⟩)⟩
    refine c6 S scr _ FR.rf (by decide) (nb_t (by decide) (learn_ok hR hW (fun S1 f1 l1 => ?_)))
    refine ⟨11, saves_c (X := X) hp hb hw1 hw 10 0 S1 (by omega) (hR.fr f1) (hW.fr f1) l1 (fun S2 v f2 a _ => mod S2 v (f1.tr (f2.mono (by decide))) a) (fun S2 f2 a => mod S2 _ (f1.tr (f2.mono (by decide))) a.symm)⟩
  · refine c6 _ (nb_f rfl ?_)
    unfold w_X7_saves
    exact c7 _ (nb_f rfl ⟨rfl, hI⟩)
