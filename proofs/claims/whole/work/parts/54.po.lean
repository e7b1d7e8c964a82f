/-! scrape. -/
theorem mxN_ge {f : Nat → Nat} : ∀ {n k : Nat}, k < n → f k ≤ mxN f n
  | 0, k, h => absurd h (Nat.not_lt_zero k)
  | n + 1, k, h => by
    rw [mxN]
    by_cases c : k = n
    · subst c
      split <;> omega
    · have := mxN_ge (f := f) (show k < n by omega)
      split <;> omega
theorem mxN_at {f : Nat → Nat} : ∀ {n : Nat}, mxN f n = 0 ∨ ∃ k, k < n ∧ f k = mxN f n
  | 0 => Or.inl rfl
  | n + 1 => by
    rw [mxN]
    by_cases c : mxN f n < f n
    · rw [if_pos c]
      exact Or.inr ⟨n, by omega, rfl⟩
    · rw [if_neg c]
      rcases mxN_at (f := f) (n := n) with h | ⟨k, h1, h2⟩
      · exact Or.inl h
      · exact Or.inr ⟨k, by omega, h2⟩
theorem hw_rng {S : St} {T Z : Nat → Nat} (hR : RAIL S T) (way : Nat) : ∀ (p b : Nat), p ≤ T 1 → b < T 0 → bsN T b ≤ hw (wkN T Z) T way p b ∧ hw (wkN T Z) T way p b ≤ bsN T b + 90 * p
  | 0, b, hp, hb => ⟨Nat.le_refl _, Nat.le_refl _⟩
  | p + 1, b, hp, hb => by
    have h1 := hw_rng (Z := Z) hR way p b (by omega) hb
    rw [hw]
    unfold accN
    split
    · omega
    · unfold addc
      split
      · have h2 := lvN_le hR (b := (fig T way p - 1) / 10) (show p < T 1 by omega) (show (fig T way p - 1) % 10 < 10 from Nat.mod_lt _ (by omega))
        have h3 : (wkN T Z).2.1 p ((fig T way p - 1) / 10) ((fig T way p - 1) % 10) = lvN T p ((fig T way p - 1) / 10) ((fig T way p - 1) % 10) := rfl
        omega
      · omega
def mcN (T Z : Nat → Nat) (b k : Nat) : Nat → Nat := sm (fun way => if hw (wkN T Z) T way (T 1) b = k then good T Z way else 0)
theorem mc_le {T Z : Nat → Nat} (hT : T 0 ≤ 6 ∧ T 1 ≤ 3) (b k i : Nat) (hi : i ≤ DD T ^ T 1) : mcN T Z b k i ≤ 226981 := by
  have h := sm_le (f := fun way => if hw (wkN T Z) T way (T 1) b = k then good T Z way else 0) (c := 1) (n := i) (fun w _ => by
    show (if hw (wkN T Z) T w (T 1) b = k then good T Z w else 0) ≤ 1
    have := good_le T Z w
    split <;> omega)
  have hD := DD_le hT
  have : mcN T Z b k i ≤ i * 1 := h
  omega
theorem left_mx {S : St} {T Z : Nat → Nat} (hR : RAIL S T) {b : Nat} (hb : b < T 0) (hz : Z b = 0) : mxN (fun k => mcN T Z b k (DD T ^ T 1)) 400 = LW T Z b := by
  have hP := hR.1.2.1
  have hbs := plainN_le hR hb (Nat.le_refl 10)
  have hbs2 : bsN T b ≤ 90 := hbs
  have e : ∀ t, mcN T Z b (bsN T b + t) (DD T ^ T 1) = sm (LWs T Z b t) (2 ^ T 1) := fun t => left_sum hP hb hz
  have z : ∀ k, (k < bsN T b ∨ bsN T b + 270 < k) → mcN T Z b k (DD T ^ T 1) = 0 := by
    intro k hk
    refine sm_zero (fun w _ => ?_)
    have h := hw_rng (Z := Z) hR w (T 1) b (Nat.le_refl _) hb
    exact if_neg (by omega)
  unfold LW
  apply Nat.le_antisymm
  · rcases mxN_at (f := fun k => mcN T Z b k (DD T ^ T 1)) (n := 400) with h | ⟨k, h1, h2⟩
    · rw [h]
      exact Nat.zero_le _
    · rw [← h2]
      by_cases c : k < bsN T b ∨ bsN T b + 270 < k
      · show mcN T Z b k (DD T ^ T 1) ≤ _
        rw [z k c]
        exact Nat.zero_le _
      · have e2 := e (k - bsN T b)
        rw [show bsN T b + (k - bsN T b) = k by omega] at e2
        show mcN T Z b k (DD T ^ T 1) ≤ _
        rw [e2]
        exact mxN_ge (f := fun t => sm (LWs T Z b t) (2 ^ T 1)) (show k - bsN T b < 271 by omega)
  · rcases mxN_at (f := fun t => sm (LWs T Z b t) (2 ^ T 1)) (n := 271) with h | ⟨t, h1, h2⟩
    · rw [h]
      exact Nat.zero_le _
    · rw [← h2]
      show sm (LWs T Z b t) (2 ^ T 1) ≤ _
      rw [← e t]
      exact mxN_ge (f := fun k => mcN T Z b k (DD T ^ T 1)) (show bsN T b + t < 400 by omega)
theorem left_pos {S : St} {T Z : Nat → Nat} (hR : RAIL S T) {b : Nat} (hb : b < T 0) (hz : Z b = 0) : LW T Z b = 0 ↔ WB T Z allT 0 = 0 := by
  have hT : T 0 ≤ 6 ∧ T 1 ≤ 3 := ⟨hR.1.1, hR.1.2.1⟩
  have hbs : bsN T b ≤ 90 := plainN_le hR hb (Nat.le_refl 10)
  rw [good_zero hT, ← left_mx hR hb hz]
  constructor
  · intro h k hk
    have hr := hw_rng (Z := Z) hR k (T 1) b (Nat.le_refl _) hb
    have h1 := mxN_ge (f := fun k => mcN T Z b k (DD T ^ T 1)) (show hw (wkN T Z) T k (T 1) b < 400 by omega)
    rw [h] at h1
    have h1' : mcN T Z b (hw (wkN T Z) T k (T 1) b) (DD T ^ T 1) ≤ 0 := h1
    have h2 := sm_part (f := fun way => if hw (wkN T Z) T way (T 1) b = hw (wkN T Z) T k (T 1) b then good T Z way else 0) hk
    have h3 : (if hw (wkN T Z) T k (T 1) b = hw (wkN T Z) T k (T 1) b then good T Z k else 0) ≤ mcN T Z b (hw (wkN T Z) T k (T 1) b) (DD T ^ T 1) := h2
    rw [if_pos rfl] at h3
    omega
  · intro h
    rcases mxN_at (f := fun k => mcN T Z b k (DD T ^ T 1)) (n := 400) with h1 | ⟨k, h1, h2⟩
    · exact h1
    · rw [← h2]
      refine sm_zero (fun w hw => ?_)
      rw [h w hw]
      split <;> rfl
theorem zero_loop {x : Int32} {kx : St → Prop} : ∀ (j i : Nat) (S : St), i + j = 2400 → (∀ k, k < i → S.1 59 k = 0) → (∀ S2 : St, FR [59] S S2 → (∀ k, k < 2400 → S2.1 59 k = 0) → kx S2) → X7_scrape_L17 x kx (j + 1) S (nI i)
  | 0, i, S, hi, hz, h => by
    rw [X7_scrape_L17]
    exact pk_le 2400 i (fun _ => h S FR.rf (fun k hk => hz k (by omega))) (fun c => absurd c (by omega)) rfl rfl
  | j + 1, i, S, hi, hz, h => by
    rw [X7_scrape_L17]
    refine pk_le 2400 i (fun c => absurd c (by omega)) (fun _ => ⟨vin (by omega), ?_⟩) rfl rfl
    rintro _ rfl _ rfl
    rw [nI_clamp (by omega), nI_1]
    have hF : FR [59] S (setA S 59 (upd (S.1 59) i 0)) := FR.set FR.rf (by decide)
    refine zero_loop j (i + 1) _ (by omega) (fun k hk => ?_) (fun S2 f a => h S2 (hF.tr f) a)
    show upd (S.1 59) i 0 k = 0
    by_cases c : k = i
    · subst c
      rw [pk_us]
    · rw [pk_un c]
      exact hz k (by omega)
theorem tally_loop {T Z : Nat → Nat} {way : Nat} {x y : Int32} {kx : St → Prop} : ∀ (j b : Nat) (S : St), b + j = T 0 → RAIL S T → (∀ i, i < T 0 → S.1 58 i = nI (hw (wkN T Z) T way (T 1) i)) → (∀ S2 : St, FR [59] S S2 → (∀ i k, i < T 0 → k < 400 → S2.1 59 (400 * i + k) = S.1 59 (400 * i + k) + nI (if b ≤ i ∧ hw (wkN T Z) T way (T 1) i = k then 1 else 0)) → kx S2) → X7_scrape_L56 x y 1 kx (j + 1) S (nI b)
  | 0, b, S, hb, hR, h58, h => by
    have hB := hR.1.1
    obtain rfl : b = T 0 := by omega
    rw [X7_scrape_L56]
    refine ⟨vin (i := 0) (by omega), pk_le (T 0) (T 0) (fun _ => h S FR.rf (fun i k hi hk => ?_)) (fun c => absurd c (by omega)) (hR.2.2.1 0 (by omega)) rfl⟩
    rw [if_neg (by omega)]
    exact (Int32.add_zero _).symm
  | j + 1, b, S, hb, hR, h58, h => by
    have hB := hR.1.1
    have hP := hR.1.2.1
    have hh := hw_le (Z := Z) hR way (T 1) b (Nat.le_refl _) (by omega)
    rw [X7_scrape_L56]
    refine ⟨vin (i := 0) (by omega), pk_le (T 0) b (fun c => absurd c (by omega)) (fun _ => br_f (by decide) ⟨vin (by omega), ?_⟩) (hR.2.2.1 0 (by omega)) rfl⟩
    rw [nI_clamp (by omega), h58 b (by omega), show (400 : Int32) = nI 400 from rfl, pk_mul, nI_add]
    refine ⟨vin (by omega), vin (by omega), ?_⟩
    rintro _ rfl _ rfl
    rw [nI_clamp (by omega), nI_1]
    have hF : FR [59] S (setA S 59 (upd (S.1 59) (400 * b + hw (wkN T Z) T way (T 1) b) (S.1 59 (400 * b + hw (wkN T Z) T way (T 1) b) + 1))) := FR.set FR.rf (by decide)
    refine tally_loop j (b + 1) _ (by omega) (hR.fr hF) (fun i hi => h58 i hi) (fun S2 f a => h S2 (hF.tr f) (fun i k hi hk => ?_))
    rw [a i k hi hk]
    show upd (S.1 59) (400 * b + hw (wkN T Z) T way (T 1) b) (S.1 59 (400 * b + hw (wkN T Z) T way (T 1) b) + 1) (400 * i + k) + _ = _
    by_cases c : i = b
    · subst c
      rw [if_neg (by omega)]
      by_cases d : hw (wkN T Z) T way (T 1) i = k
      · rw [d, pk_us, if_pos ⟨Nat.le_refl _, rfl⟩]
        exact Int32.add_zero _
      · rw [pk_un (by omega), if_neg (fun q => d q.2)]
    · rw [pk_un (by omega)]
      by_cases d : b + 1 ≤ i ∧ hw (wkN T Z) T way (T 1) i = k
      · rw [if_pos d, if_pos ⟨by omega, d.2⟩]
      · rw [if_neg d, if_neg (fun q => d ⟨by omega, q.2⟩)]
theorem many_loop {T X Z : Nat → Nat} {x : Int32} {kx : St → Prop} : ∀ (j i : Nat) (S : St), i + j = DD T ^ T 1 → RAIL S T → NOW S T X Z → LAYS S T → (∀ b k, b < T 0 → k < 400 → S.1 59 (400 * b + k) = nI (mcN T Z b k i)) → (∀ S2 : St, FR [58, 59] S S2 → (∀ b k, b < T 0 → k < 400 → S2.1 59 (400 * b + k) = nI (mcN T Z b k (DD T ^ T 1))) → kx S2) → X7_scrape_L39 x kx (j + 1) S (nI i)
  | 0, i, S, hi, hR, hW, hL, hm, h => by
    have hD := DD_le (T := T) ⟨hR.1.1, hR.1.2.1⟩
    obtain rfl : i = DD T ^ T 1 := by omega
    rw [X7_scrape_L39]
    exact pk_le (DD T ^ T 1) (DD T ^ T 1) (fun _ => h S FR.rf hm) (fun c => absurd c (by omega)) hL.2.2 rfl
  | j + 1, i, S, hi, hR, hW, hL, hm, h => by
    have hD := DD_le (T := T) ⟨hR.1.1, hR.1.2.1⟩
    have hB := hR.1.1
    rw [X7_scrape_L39]
    refine pk_le (DD T ^ T 1) i (fun c => absurd c (by omega)) (fun _ => isWay_ok hR hW hL (by omega) (fun S2 f h58 => ?_)) hL.2.2 rfl
    have e : ∀ b k, mcN T Z b k (i + 1) = mcN T Z b k i + if hw (wkN T Z) T i (T 1) b = k then good T Z i else 0 := fun b k => rfl
    have f2 : FR [58, 59] S S2 := f.mono (by decide)
    have hm2 : ∀ b k, b < T 0 → k < 400 → S2.1 59 (400 * b + k) = nI (mcN T Z b k i) := fun b k hb hk => by
      rw [f.1 59 (by decide)]
      exact hm b k hb hk
    have hg := good_le T Z i
    rcases (by omega : good T Z i = 0 ∨ good T Z i = 1) with g | g
    · rw [g]
      refine ⟨1, ?_⟩
      rw [X7_scrape_L56]
      have next : ∀ x24 : Int32, x24 = nI i + (1 : Int32) → X7_scrape_L39 x kx (j + 1) S2 x24 := by
        rintro _ rfl
        rw [nI_1]
        refine many_loop j (i + 1) S2 (by omega) (hR.fr f) (hW.fr f) (hL.fr f) (fun b k hb hk => ?_) (fun S3 f3 a => h S3 (f2.tr f3) a)
        rw [hm2 b k hb hk, e, g]
        congr 1
        split <;> rfl
      exact ⟨vin (i := 0) (by omega), pk_le (T 0) 0 (fun _ => next) (fun _ => br_t rfl next) ((hR.fr f).2.2.1 0 (by omega)) rfl⟩
    · rw [g]
      refine ⟨T 0 + 1, tally_loop (Z := Z) (way := i) (T 0) 0 S2 (by omega) (hR.fr f) h58 (fun S3 f3 a => ?_)⟩
      rintro _ rfl
      rw [nI_1]
      have f23 : FR [58, 59] S S3 := f2.tr (f3.mono (by decide))
      refine many_loop j (i + 1) S3 (by omega) (hR.fr f23) (hW.fr f23) (hL.fr f23) (fun b k hb hk => ?_) (fun S4 f4 a2 => h S4 (f23.tr f4) a2)
      rw [a b k hb hk, hm2 b k hb hk, nI_add, e, g]
      congr 2
      by_cases d : hw (wkN T Z) T i (T 1) b = k
      · rw [if_pos d, if_pos ⟨Nat.zero_le _, d⟩]
      · rw [if_neg d, if_neg (fun q => d q.2)]
def wfN (T Z : Nat → Nat) (b : Nat) : Nat := if Z b = 0 then LW T Z b else 0
theorem worst_loop {T X Z : Nat → Nat} {S : St} (hR : RAIL S T) (hW : NOW S T X Z) {b : Nat} (hb : b < T 0) (hz : Z b = 0) (hm : ∀ k, k < 400 → S.1 59 (400 * b + k) = nI (mcN T Z b k (DD T ^ T 1))) {x y z : Int32} {kx : Int32 → Prop} (h : kx (nI (mxN (fun k => mcN T Z b k (DD T ^ T 1)) 400))) : ∀ (j i : Nat), i + j = 400 → X7_scrape_L131 S x y z (nI b) kx (j + 1) (nI (mxN (fun k => mcN T Z b k (DD T ^ T 1)) i)) (nI i)
  | 0, i, hi => by
    obtain rfl : i = 400 := by omega
    rw [X7_scrape_L131]
    exact pk_le 400 400 (fun _ => h) (fun c => absurd c (by omega)) rfl rfl
  | j + 1, i, hi => by
    have hT : T 0 ≤ 6 ∧ T 1 ≤ 3 := ⟨hR.1.1, hR.1.2.1⟩
    have hzz := hW.2.2.2.2.2.1 b (by omega)
    have e49 : (49 : Int32) + nI b = nI (49 + b) := nI_add 49 b
    have es : S.1 53 (49 + b) = -9 := by
      have := hzz.2.1
      rw [Nat.zero_add, hz] at this
      exact this
    have ih := worst_loop hR hW hb hz hm (x := x) (y := y) (z := z) h j (i + 1) (by omega)
    rw [mxN] at ih
    have hm1 := mc_le (Z := Z) hT b i (DD T ^ T 1) (Nat.le_refl _)
    have hm2 : mxN (fun k => mcN T Z b k (DD T ^ T 1)) i ≤ 226981 := mxN_le (fun k _ => mc_le hT b k _ (Nat.le_refl _))
    rw [X7_scrape_L131]
    refine pk_le 400 i (fun c => absurd c (by omega)) (fun _ => ?_) rfl rfl
    rw [e49, show (400 : Int32) = nI 400 from rfl, pk_mul, nI_add]
    refine ⟨vin (by omega), ?_⟩
    rw [nI_clamp (by omega), nI_clamp (by omega), es]
    refine nb_f rfl ⟨vin (by omega), ?_⟩
    rw [hm i (by omega)]
    refine pk_le (mcN T Z b i (DD T ^ T 1)) (mxN (fun k => mcN T Z b k (DD T ^ T 1)) i) (fun c => ?_) (fun c => ⟨vin (by omega), ?_⟩) rfl rfl
    · rintro _ rfl
      rw [if_neg (by omega)] at ih
      rw [nI_1]
      exact ih
    · rintro _ rfl _ rfl
      rw [if_pos c] at ih
      rw [nI_1]
      exact ih
def scN (f : Nat → Nat) : Nat → Nat × Nat
  | 0 => (0, 0)
  | i + 1 => if f i = 0 then scN f i else if (scN f i).1 = 0 ∨ f i < (scN f i).2 then (i + 1, f i) else scN f i
theorem scN_le {f : Nat → Nat} : ∀ i, (scN f i).1 ≤ i
  | 0 => Nat.le_refl 0
  | i + 1 => by
    have := scN_le (f := f) i
    rw [scN]
    split
    · omega
    · split
      · exact Nat.le_refl _
      · omega
theorem scN_2 {f : Nat → Nat} {c : Nat} (h : ∀ k, f k ≤ c) : ∀ i, (scN f i).2 ≤ c
  | 0 => Nat.zero_le c
  | i + 1 => by
    have := scN_2 h i
    rw [scN]
    split
    · exact this
    · split
      · exact h i
      · exact this
theorem enc_s (b : Nat) : enc (b + 1) = nI b := by simp [enc]
theorem enc_n {z : Nat} (h : z ≤ 1000) (hz : z ≠ 0) : ¬ enc z = -9 := fun q => hz ((enc_9 h).mp q)
theorem fewest_m {T X Z : Nat → Nat} {S : St} (hR : RAIL S T) (hW : NOW S T X Z) (hm : ∀ b k, b < T 0 → k < 400 → S.1 59 (400 * b + k) = nI (mcN T Z b k (DD T ^ T 1))) {x : Int32} {kx : Int32 → Int32 → Prop} (hw : ∀ b, wfN T Z b ≤ 2000000000) (h : kx (enc (scN (wfN T Z) (T 0)).1) (nI (scN (wfN T Z) (T 0)).2)) : ∀ (j b : Nat), b + j = T 0 → X7_scrape_L114 S x kx (j + 1) (enc (scN (wfN T Z) b).1) (nI (scN (wfN T Z) b).2) (nI b)
  | 0, b, hb => by
    have hB := hR.1.1
    obtain rfl : b = T 0 := by omega
    rw [X7_scrape_L114]
    exact ⟨vin (i := 0) (by omega), pk_le (T 0) (T 0) (fun _ => h) (fun c => absurd c (by omega)) (hR.2.2.1 0 (by omega)) rfl⟩
  | j + 1, b, hb => by
    have hB := hR.1.1
    have hzz := hW.2.2.2.2.2.1 b (by omega)
    have ih := fewest_m hR hW hm (x := x) hw h j (b + 1) (by omega)
    have hle := scN_le (f := wfN T Z) b
    have hle2 := scN_2 hw b
    have hwb := hw b
    rw [scN] at ih
    rw [X7_scrape_L114]
    refine ⟨vin (i := 0) (by omega), pk_le (T 0) b (fun c => absurd c (by omega)) (fun _ => ?_) (hR.2.2.1 0 (by omega)) rfl⟩
    have step : ∃ n, X7_scrape_L131 S x (enc (scN (wfN T Z) b).1) (nI (scN (wfN T Z) b).2) (nI b) (fun (v43) => (∀ J44 : Int32 → Prop, J44 = (fun (x45) => (∀ J46 : Int32 → Prop, J46 = (fun (x47) => ((x45 = 0 → ∀ x48 : Int32, x48 = nI b + (1 : Int32) → X7_scrape_L114 S x kx (j + 1) x47 (nI (scN (wfN T Z) b).2) x48) ∧ (¬ x45 = 0 → ∀ x49 : Int32, x49 = nI b + (1 : Int32) → X7_scrape_L114 S x kx (j + 1) x47 v43 x49))) → ((x45 = 0 → J46 (enc (scN (wfN T Z) b).1)) ∧ (¬ x45 = 0 → J46 (nI b))))) → ∀ J50 : Prop, J50 = (J44 0) → ((v43 ≤ 0 → J50) ∧ (¬ v43 ≤ 0 → ((enc (scN (wfN T Z) b).1 = -9 → J44 1) ∧ (¬ enc (scN (wfN T Z) b).1 = -9 → ((nI (scN (wfN T Z) b).2 ≤ v43 → J50) ∧ (¬ nI (scN (wfN T Z) b).2 ≤ v43 → J44 1)))))))) n 0 0 := by
      have fin : ∀ kk : Int32 → Prop, kk (nI (wfN T Z b)) → ∃ n, X7_scrape_L131 S x (enc (scN (wfN T Z) b).1) (nI (scN (wfN T Z) b).2) (nI b) kk n 0 0 := by
        intro kk hk
        by_cases hz : Z b = 0
        · refine ⟨401, worst_loop hR hW (by omega) hz (fun k hk => hm b k (by omega) hk) ?_ 400 0 (by omega)⟩
          rw [left_mx hR (by omega) hz]
          unfold wfN at hk
          rw [if_pos hz] at hk
          exact hk
        · refine ⟨1, ?_⟩
          have e49 : (49 : Int32) + nI b = nI (49 + b) := nI_add 49 b
          have es : S.1 53 (49 + b) = enc (Z b) := by
            have := hzz.2.1
            rwa [Nat.zero_add] at this
          unfold wfN at hk
          rw [if_neg hz] at hk
          rw [X7_scrape_L131]
          refine pk_le 400 0 (fun c => absurd c (by omega)) (fun _ => ?_) rfl rfl
          rw [e49]
          refine ⟨vin (by omega), ?_⟩
          rw [nI_clamp (by omega), es]
          exact nb_t (enc_n hzz.2.2 hz) hk
      refine fin _ (nm_e (nm_e ?_))
      have keep : (wfN T Z b = 0 ∨ ¬ ((scN (wfN T Z) b).1 = 0 ∨ wfN T Z b < (scN (wfN T Z) b).2)) → X7_scrape_L114 S x kx (j + 1) (enc (scN (wfN T Z) b).1) (nI (scN (wfN T Z) b).2) (nI b + 1) := by
        intro q
        rw [nI_1]
        by_cases c : wfN T Z b = 0
        · rw [if_pos c] at ih
          exact ih
        · rw [if_neg c, if_neg (q.resolve_left c)] at ih
          exact ih
      have take : ¬ wfN T Z b = 0 → ((scN (wfN T Z) b).1 = 0 ∨ wfN T Z b < (scN (wfN T Z) b).2) → X7_scrape_L114 S x kx (j + 1) (nI b) (nI (wfN T Z b)) (nI b + 1) := by
        intro c q
        rw [nI_1]
        rw [if_neg c, if_pos q, enc_s] at ih
        exact ih
      refine pk_le (wfN T Z b) 0 (fun c => nm_e (br_t rfl (br_t rfl ?_))) (fun c => ?_) rfl rfl
      · rintro _ rfl
        exact keep (Or.inl (by omega))
      · by_cases d : (scN (wfN T Z) b).1 = 0
        · refine br_t (by rw [d]; rfl) (nm_e (br_f (by decide) (br_f (by decide) ?_)))
          rintro _ rfl
          exact take (by omega) (Or.inl d)
        · refine br_f (enc_n (by omega) d) ?_
          refine pk_le (scN (wfN T Z) b).2 (wfN T Z b) (fun c2 => nm_e (br_t rfl (br_t rfl ?_))) (fun c2 => nm_e (br_f (by decide) (br_f (by decide) ?_))) rfl rfl
          · rintro _ rfl
            exact keep (Or.inr (fun q => q.elim d (fun z => by omega)))
          · rintro _ rfl
            exact take (by omega) (Or.inr c2)
    exact step
theorem fewest_c {T X Z : Nat → Nat} {x : Int32} {kx : St → Int32 → Int32 → Prop} (hall : ¬ WB T Z allT 0 = 0) (hw : ∀ b, wfN T Z b ≤ 2000000000) : ∀ (j b : Nat) (S : St), b + j = T 0 → RAIL S T → NOW S T X Z → LEARN S T Z → (∀ S2 : St, FR [44, 45] S S2 → kx S2 (enc (scN (wfN T Z) (T 0)).1) (if (scN (wfN T Z) (T 0)).1 = 0 then -9 else nI (scN (wfN T Z) (T 0)).2)) → X6_scrape_L48 x kx (j + 1) S (enc (scN (wfN T Z) b).1) (if (scN (wfN T Z) b).1 = 0 then -9 else nI (scN (wfN T Z) b).2) (nI b)
  | 0, b, S, hb, hR, hW, hL, h => by
    have hB := hR.1.1
    obtain rfl : b = T 0 := by omega
    rw [X6_scrape_L48]
    exact pk_le (T 0) (T 0) (fun _ => h S FR.rf) (fun c => absurd c (by omega)) hR.2.1.1 rfl
  | j + 1, b, S, hb, hR, hW, hL, h => by
    have hB := hR.1.1
    have hzz := hW.2.2.2.2.2.1 b (by omega)
    have hle := scN_le (f := wfN T Z) b
    have hle2 := scN_2 hw b
    have hwb := hw b
    have ih := fun (S2 : St) (f : FR [44, 45] S S2) => fewest_c hall hw (x := x) (kx := kx) j (b + 1) S2 (by omega) (hR.fr f) (hW.fr f) (hL.fr f) (fun S3 f3 => h S3 (f.tr f3))
    rw [scN] at ih
    rw [X6_scrape_L48]
    refine pk_le (T 0) b (fun c => absurd c (by omega)) (fun _ => ⟨vin (by omega), ?_⟩) hR.2.1.1 rfl
    rw [nI_clamp (by omega), hzz.1]
    by_cases hz : Z b = 0
    · refine nb_f ((enc_9 hzz.2.2).mpr hz) (leftAtWorst_ok (X := X) hR hL (by omega) (fun S2 f l => ?_))
      have ew : wfN T Z b = LW T Z b := if_pos hz
      have e0 : ¬ wfN T Z b = 0 := by
        rw [ew, left_pos hR (by omega) hz]
        exact hall
      have ih2 := ih S2 f
      rw [if_neg e0] at ih2
      rw [← ew]
      by_cases d : (scN (wfN T Z) b).1 = 0
      · rw [if_pos (Or.inl d), enc_s, if_neg (show ¬ (b + 1, wfN T Z b).1 = 0 from Nat.succ_ne_zero b)] at ih2
        refine br_t (by rw [d]; rfl) ?_
        rintro _ rfl
        rw [nI_1]
        exact ih2
      · refine br_f (enc_n (by omega) d) ?_
        rw [if_neg d]
        refine pk_le (scN (wfN T Z) b).2 (wfN T Z b) (fun c2 => ?_) (fun c2 => ?_) rfl rfl
        · rintro _ rfl
          rw [if_neg (fun q => q.elim d (fun z => by omega)), if_neg d] at ih2
          rw [nI_1]
          exact ih2
        · rintro _ rfl
          rw [if_pos (Or.inr c2), enc_s, if_neg (show ¬ (b + 1, wfN T Z b).1 = 0 from Nat.succ_ne_zero b)] at ih2
          rw [nI_1]
          exact ih2
    · refine nb_t (enc_n hzz.2.2 hz) ?_
      have e0 : wfN T Z b = 0 := if_neg hz
      rintro _ rfl
      have ih2 := ih S FR.rf
      rw [if_pos e0] at ih2
      rw [nI_1]
      exact ih2
