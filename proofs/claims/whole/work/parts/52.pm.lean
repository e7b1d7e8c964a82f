/-! odds. -/
theorem gcd_step (a r : Nat) : Nat.gcd a r = Nat.gcd r (a % r) := by
  rw [Nat.gcd_comm a r, Nat.gcd_rec r a, Nat.gcd_comm]
theorem cd_loop {kx : Int32 → Prop} : ∀ (k a r st : Nat), r < 2 ^ k → a < 2 ^ 31 → r < 2 ^ 31 → st + 2 * k < 64 → kx (nI (Nat.gcd a r)) → X6_commonDivisor_L7 kx (2 * k + 1) (nI a) (nI r) (nI st)
  | 0, a, r, st, hr, ha, hr2, hs, h => by
    obtain rfl : r = 0 := by
      have : 2 ^ 0 = 1 := rfl
      omega
    rw [Nat.gcd_zero_right] at h
    rw [X6_commonDivisor_L7]
    exact pk_le 64 st (fun c => absurd c (by omega)) (fun _ => br_t rfl h) rfl rfl
  | k + 1, a, r, st, hr, ha, hr2, hs, h => by
    have e3 : 2 * (k + 1) + 1 = (2 * k + 1) + 1 + 1 := by omega
    rw [e3, X6_commonDivisor_L7]
    refine pk_le 64 st (fun c => absurd c (by omega)) (fun _ => pk_eq r 0 (fun c => ?_) (fun c => ⟨ne0_nI hr2 c, ?_⟩) rfl rfl) rfl rfl
    · rw [c, Nat.gcd_zero_right] at h
      exact h
    · rintro _ rfl _ rfl
      rw [nI_mod ha hr2, nI_1, X6_commonDivisor_L7]
      have h1 : a % r < r := Nat.mod_lt _ (by omega)
      rw [gcd_step] at h
      refine pk_le 64 (st + 1) (fun c => absurd c (by omega)) (fun _ => pk_eq (a % r) 0 (fun c => ?_) (fun c => ⟨ne0_nI (by omega) c, ?_⟩) rfl rfl) rfl rfl
      · rw [c, Nat.gcd_zero_right] at h
        exact h
      · rintro _ rfl _ rfl
        rw [nI_mod hr2 (by omega), nI_1]
        rw [gcd_step] at h
        generalize a % r = r1 at *
        have h2 : r % r1 < r1 := Nat.mod_lt _ (by omega)
        have h3 : r % r1 + r1 ≤ r := by
          have q1 := Nat.mod_add_div r r1
          have q2 : 1 ≤ r / r1 := Nat.div_pos (by omega) (by omega)
          have q3 : r1 * 1 ≤ r1 * (r / r1) := Nat.mul_le_mul_left r1 q2
          omega
        refine cd_loop k r1 (r % r1) (st + 1 + 1) ?_ (by omega) (by omega) (by omega) h
        rw [Nat.pow_succ] at hr
        omega
theorem commonDivisor_ok {u l : Nat} (hu : u ≤ 226981) (hl : l ≤ 226981) {Q : Int32 → Prop} (h : Q (nI (Nat.gcd l u))) : w_X6_commonDivisor (nI u) (nI l) Q :=
  ⟨2 * 18 + 1, cd_loop (kx := fun v => Q v) 18 l u 0 (by omega) (by omega) (by omega) (by omega) h⟩
theorem euclid_loop {S : St} {f g e : Int32} {kx : Int32 → Prop} (b : Nat) : ∀ (y x : Nat), y ≤ b → x < 2 ^ 31 → y < 2 ^ 31 → kx (nI (Nat.gcd x y)) → ∃ n, X7_odds_L105 S f g e kx n (nI x) (nI y) := by
  induction b with
  | zero =>
    intro y x hy hx hy2 h
    obtain rfl : y = 0 := by omega
    refine ⟨1, ?_⟩
    rw [X7_odds_L105]
    rw [Nat.gcd_zero_right] at h
    exact pk_le 0 0 (fun _ => h) (fun c => absurd c (by omega)) rfl rfl
  | succ b ih =>
    intro y x hy hx hy2 h
    by_cases c : y = 0
    · subst c
      refine ⟨1, ?_⟩
      rw [X7_odds_L105]
      rw [Nat.gcd_zero_right] at h
      exact pk_le 0 0 (fun _ => h) (fun c => absurd c (by omega)) rfl rfl
    · have h1 : x % y < y := Nat.mod_lt _ (by omega)
      rw [gcd_step] at h
      obtain ⟨n, hn⟩ := ih (x % y) y (by omega) hy2 (by omega) h
      refine ⟨n + 1, ?_⟩
      rw [X7_odds_L105]
      refine pk_le y 0 (fun d => absurd d (by omega)) (fun _ => ⟨ne0_nI hy2 c, ?_⟩) rfl rfl
      rintro _ rfl
      rw [nI_mod hx hy2]
      exact hn
def someN (T Z : Nat → Nat) (p : Nat) (y : Int32) : Nat → Nat := sm (fun k => if bcI T p k = y then good T Z k else 0)
theorem odds_loop {T X Z : Nat → Nat} {p : Nat} {y w : Int32} (hp : p < 3) {kx : St → Int32 → Int32 → Prop} : ∀ (j i : Nat) (S : St), i + j = DD T ^ T 1 → RAIL S T → NOW S T X Z → LAYS S T → (∀ S2 : St, FR [58] S S2 → kx S2 (nI (sm (good T Z) (DD T ^ T 1))) (nI (someN T Z p y (DD T ^ T 1)))) → X7_odds_L46 (nI p) y w kx (j + 1) S (nI (sm (good T Z) i)) (nI (someN T Z p y i)) (nI i)
  | 0, i, S, hi, hR, hW, hL, h => by
    have hD := DD_le (T := T) ⟨hR.1.1, hR.1.2.1⟩
    obtain rfl : i = DD T ^ T 1 := by omega
    rw [X7_odds_L46]
    exact pk_le (DD T ^ T 1) (DD T ^ T 1) (fun _ => h S FR.rf) (fun c => absurd c (by omega)) hL.2.2 rfl
  | j + 1, i, S, hi, hR, hW, hL, h => by
    have hD := DD_le (T := T) ⟨hR.1.1, hR.1.2.1⟩
    rw [X7_odds_L46]
    refine pk_le (DD T ^ T 1) i (fun c => absurd c (by omega)) (fun _ => isWay_ok hR hW hL (by omega) (fun S2 f _ => ?_)) hL.2.2 rfl
    have ih := odds_loop (w := w) hp j (i + 1) S2 (by omega) (hR.fr f) (hW.fr f) (hL.fr f) (fun S3 f3 => h S3 (f.tr f3))
    have e1 : sm (good T Z) (i + 1) = sm (good T Z) i + good T Z i := rfl
    have e2 : someN T Z p y (i + 1) = someN T Z p y i + if bcI T p i = y then good T Z i else 0 := rfl
    have hg := good_le T Z i
    rw [e1, e2] at ih
    refine pk_eq (good T Z i) 0 (fun c => ?_) (fun c => ?_) rfl rfl
    · rintro _ rfl
      have z : (if bcI T p i = y then good T Z i else 0) = 0 := by
        rw [c]
        split <;> rfl
      rw [z, c] at ih
      rw [nI_1]
      exact ih
    · have g1 : good T Z i = 1 := by omega
      rw [g1] at ih
      rintro _ rfl
      refine figureOf_ok (hR.fr f) (by omega) hp (barOf_ok hR.1.1 p i ?_)
      rw [nI_1]
      by_cases d : bcI T p i = y
      · rw [if_pos d] at ih
        refine nb_f d ?_
        rintro _ rfl _ rfl
        rw [nI_1, nI_1]
        exact ih
      · rw [if_neg d] at ih
        refine nb_t d ?_
        rintro _ rfl _ rfl
        rw [add_z, nI_1]
        exact ih
theorem some_none {T Z : Nat → Nat} (hT : T 0 ≤ 6 ∧ T 1 ≤ 3) {p : Nat} (hp : p < T 1) : someN T Z p (-4) (DD T ^ T 1) = WB T Z allT (2 ^ p) := by
  rw [← none_sum hT.2 hp]
  refine sm_cong (fun k _ => ?_)
  have hb := bc_none hT.1 p k
  have hle := wt_le (e0 := 1) (e := fun _ _ => 0) (Nat.le_refl 1) (fun _ _ => Nat.zero_le 1) (fig T k p)
  by_cases c : bcI T p k = -4
  · rw [if_pos c, hb.mpr c, Nat.one_mul]
  · rw [if_neg c]
    have : wt1 1 (fun _ _ => 0) (fig T k p) = 0 := by
      have : wt1 1 (fun _ _ => 0) (fig T k p) ≠ 1 := fun q => c (hb.mp q)
      omega
    rw [this, Nat.zero_mul]
theorem some_bar {T Z : Nat → Nat} (hT : T 0 ≤ 6 ∧ T 1 ≤ 3) {p b : Nat} (hp : p < T 1) (hb : b < T 0) : someN T Z p (nI b) (DD T ^ T 1) = HB T Z p b := by
  rw [← hold_sum hT.2 hp hb]
  refine sm_cong (fun k _ => ?_)
  have hbb := bc_bar hT.1 p k b (by omega)
  have hle := wt_le (e0 := 0) (e := fun x _ => if x = b then 1 else 0) (Nat.zero_le 1) (fun x _ => by split <;> omega) (fig T k p)
  by_cases c : bcI T p k = nI b
  · rw [if_pos c, hbb.mpr c, Nat.one_mul]
  · rw [if_neg c]
    have : wt1 0 (fun x _ => if x = b then 1 else 0) (fig T k p) = 0 := by
      have : wt1 0 (fun x _ => if x = b then 1 else 0) (fig T k p) ≠ 1 := fun q => c (hbb.mp q)
      omega
    rw [this, Nat.zero_mul]
theorem some_le {T Z : Nat → Nat} (p : Nat) (y : Int32) (n : Nat) : someN T Z p y n ≤ sm (good T Z) n := sm_mono (fun k _ => by
  show (if bcI T p k = y then good T Z k else 0) ≤ good T Z k
  split <;> omega)
/-- the answer of odds, from both numbers -/
def ansN (u l w : Nat) : Nat := if u = 0 then w else if w = 0 then u / Nat.gcd l u else l / Nat.gcd l u
theorem odds_c {u l w : Nat} (hul : u ≤ l) (hl : l ≤ 226981) (hw : w ≤ 1) {Q : Int32 → Prop} (h : Q (nI (ansN u l w))) : w_X6_commonDivisor (nI u) (nI l) (fun r10 => ((¬ r10 = 0 → ((¬ nI w = 0 → (¬ r10 = 0 ∧ Q (nI l / r10))) ∧ (nI w = 0 → (¬ r10 = 0 ∧ Q (nI u / r10))))) ∧ (r10 = 0 → Q (nI w)))) := by
  have hg1 : Nat.gcd l u ≤ l := by
    by_cases z : l = 0
    · rw [show u = 0 by omega, Nat.gcd_zero_right]
      omega
    · exact Nat.le_of_dvd (by omega) (Nat.gcd_dvd_left l u)
  refine commonDivisor_ok (by omega) hl ?_
  refine pk_eqN (Nat.gcd l u) 0 (fun hg0 => ?_) (fun c => ?_)
  · have key : ∀ v : Nat, v = (if w = 0 then u / Nat.gcd l u else l / Nat.gcd l u) → Q (nI v) := by
      intro v hv
      unfold ansN at h
      by_cases d : u = 0
      · rw [if_pos d] at h
        rw [d, Nat.gcd_zero_right] at hg0
        have e : v = w := by
          rw [hv, d, Nat.gcd_zero_right]
          by_cases z : w = 0
          · rw [if_pos z, Nat.zero_div, z]
          · rw [if_neg z, Nat.div_self (by omega)]
            omega
        rw [e]
        exact h
      · rw [if_neg d, ← hv] at h
        exact h
    refine pk_eqN w 0 (fun d => ⟨ne0_nI (by omega) hg0, ?_⟩) (fun d => ⟨ne0_nI (by omega) hg0, ?_⟩)
    · rw [nI_div (by omega) (by omega)]
      exact key _ (if_neg d).symm
    · rw [nI_div (by omega) (by omega)]
      exact key _ (if_pos d).symm
  · have u0 : u = 0 := by
      by_cases z : l = 0
      · omega
      · have := Nat.gcd_pos_of_pos_left u (show 0 < l by omega)
        omega
    unfold ansN at h
    rw [if_pos u0] at h
    exact h
theorem odds_m {T X Z : Nat → Nat} {S0 S3 : St} (hI : INV S0) (f3 : FR scr S0 S3) (hR : RAIL S0 T) (hW : NOW S0 T X Z) {p : Nat} (hp : p < T 1) {y : Int32} {w : Nat} (hw : w ≤ 1) (v : Int32) (hv : v = nI (ansN (someN T Z p y (DD T ^ T 1)) (sm (good T Z) (DD T ^ T 1)) w)) : w_X7_in (nI w) (0 : Int32) (1 : Int32) (fun r3 => ((¬ r3 = 0 → (w_X7_lays S3 (fun S4 => (∃ n : Nat, X7_odds_L46 (nI p) y (nI w) (fun (S25 : St) (v26) (v27) => (∃ n : Nat, X7_odds_L105 S25 (nI w) v26 v27 (fun (v36) => ((¬ v27 = 0 → ((¬ nI w = 0 → (¬ v36 = 0 ∧ (v = v26 / v36 ∧ INV S25))) ∧ (nI w = 0 → (¬ v36 = 0 ∧ (v = v27 / v36 ∧ INV S25))))) ∧ (v27 = 0 → (v = nI w ∧ INV S25)))) n v27 v26)) n S4 0 0 0)))) ∧ (r3 = 0 → (v = -1 ∧ INV S3)))) := by
  have hB : T 0 ≤ 6 ∧ T 1 ≤ 3 := ⟨hR.1.1, hR.1.2.1⟩
  have hD := DD_le hB
  refine in_in 0 1 w (by omega) hw (nb_t (by decide) (lays_ok (hR.fr f3) (fun S4 f4 l4 => ?_)))
  have f34 : FR scr S0 S4 := f3.tr (f4.mono (by decide))
  refine ⟨DD T ^ T 1 + 1, odds_loop (X := X) (by omega) (DD T ^ T 1) 0 S4 (by omega) (hR.fr f34) (hW.fr f34) l4 (fun S5 f5 => ?_)⟩
  have hJ : INV S5 := hI.frame (f34.tr (f5.mono (by decide)))
  have hle := some_le (T := T) (Z := Z) p y (DD T ^ T 1)
  have hl : sm (good T Z) (DD T ^ T 1) ≤ 226981 := by
    have e : sm (good T Z) (DD T ^ T 1) = WB T Z allT 0 := all_sum hB.2
    rw [e]
    exact WB_le hB allT 0
  generalize sm (good T Z) (DD T ^ T 1) = l at *
  generalize someN T Z p y (DD T ^ T 1) = u at *
  refine euclid_loop l l u (Nat.le_refl l) (by omega) (by omega) ?_
  unfold ansN at hv
  refine pk_eqN u 0 (fun c => ?_) (fun c => ?_)
  · rw [if_neg c] at hv
    have hg1 : Nat.gcd u l ≤ l := Nat.le_of_dvd (by omega) (Nat.gcd_dvd_right u l)
    have hg0 : Nat.gcd u l ≠ 0 := by
      have := Nat.gcd_pos_of_pos_left l (show 0 < u by omega)
      omega
    rw [Nat.gcd_comm l u] at hv
    refine pk_eqN w 0 (fun d => ⟨ne0_nI (by omega) hg0, ?_, hJ⟩) (fun d => ⟨ne0_nI (by omega) hg0, ?_, hJ⟩)
    · rw [nI_div (by omega) (by omega), hv, if_neg d]
    · rw [nI_div (by omega) (by omega), hv, if_pos d]
  · rw [if_pos c] at hv
    exact ⟨hv, hJ⟩
theorem ok_odds {S : St} (h : INV S) (x y z : Int32) : w_X6_odds S x y z (fun r S1 => w_X7_odds S1 x y z (fun r2 S2 => r = r2 ∧ INV S2)) := by
  have hI := h
  obtain ⟨T, X, Z, nt, hR, hW, hT, h0, h1, ht⟩ := h
  have hB : T 0 ≤ 6 ∧ T 1 ≤ 3 := ⟨hR.1.1, hR.1.2.1⟩
  unfold w_X6_odds
  rcases person_cases hR x with ⟨p, hp, rfl⟩ | ⟨g1, g2⟩
  · refine hasPerson_in hR.2.1.2.1 hB.2 hp (br_f (by decide) ?_)
    rcases rng_cases z 0 1 (by omega) (by omega) with ⟨w, -, hw, rfl⟩ | gz
    · refine within_in 0 1 w (by omega) hw (nb_t (by decide) (nm_e ?_))
      by_cases c : y = -4
      · refine br_t c (learn_ok hR hW (fun S1 f1 l1 => nm_e (nb_f c (holdingNone_ok hB l1 hp (fun S2 f2 l2 => all_ok hB l2 (fun S3 f3 l3 => ?_))))))
        have f13 : FR scr S S3 := (f1.tr (f2.mono (by decide))).tr (f3.mono (by decide))
        have hsn := some_none (Z := Z) hB hp
        have hse : sm (good T Z) (DD T ^ T 1) = WB T Z allT 0 := all_sum hB.2
        refine odds_c (u := WB T Z allT (2 ^ p)) (l := WB T Z allT 0) (Q := fun r => w_X7_odds S3 (nI p) y (nI w) (fun r2 S2 => r = r2 ∧ INV S2)) (by rw [← hsn, ← hse]; exact some_le p (-4) _) (WB_le hB allT 0) hw ?_
        unfold w_X7_odds
        refine isPerson_in ((hR.fr f13).2.2.1 1 (by omega)) hB.2 hp (br_f (by decide) (nm_e (br_t c ?_)))
        refine odds_m hI f13 hR hW hp hw _ ?_
        rw [c, hsn, hse]
      · refine br_f c ?_
        rcases bar_cases hR y with ⟨b, hb, rfl⟩ | ⟨g1, g2⟩
        · refine hasBar_in hR.2.1.1 hB.1 hb (nb_t (by decide) (learn_ok hR hW (fun S1 f1 l1 => nm_e (nb_t c (holding_ok hB l1 hb hp (fun S2 f2 l2 => all_ok hB l2 (fun S3 f3 l3 => ?_)))))))
          have f13 : FR scr S S3 := (f1.tr (f2.mono (by decide))).tr (f3.mono (by decide))
          have hsn := some_bar (Z := Z) hB hp hb
          have hse : sm (good T Z) (DD T ^ T 1) = WB T Z allT 0 := all_sum hB.2
          refine odds_c (u := HB T Z p b) (l := WB T Z allT 0) (Q := fun r => w_X7_odds S3 (nI p) (nI b) (nI w) (fun r2 S2 => r = r2 ∧ INV S2)) (by rw [← hsn, ← hse]; exact some_le p (nI b) _) (WB_le hB allT 0) hw ?_
          unfold w_X7_odds
          refine isPerson_in ((hR.fr f13).2.2.1 1 (by omega)) hB.2 hp (br_f (by decide) (nm_e (br_f c ?_)))
          refine isBar_in ((hR.fr f13).2.2.1 0 (by omega)) hB.1 hb (br_f (by decide) ?_)
          refine odds_m hI f13 hR hW hp hw _ ?_
          rw [hsn, hse]
        · refine hasBar_out g1 (nb_f rfl ?_)
          unfold w_X7_odds
          exact isPerson_in (hR.2.2.1 1 (by omega)) hB.2 hp (br_f (by decide) (nm_e (br_f c (isBar_out g2 (br_t rfl ⟨rfl, hI⟩)))))
    · refine within_out gz (nb_f rfl ?_)
      unfold w_X7_odds
      refine isPerson_in (hR.2.2.1 1 (by omega)) hB.2 hp (br_f (by decide) (nm_e ?_))
      by_cases c : y = -4
      · exact br_t c (in_out gz (nb_f rfl ⟨rfl, hI⟩))
      · refine br_f c ?_
        rcases bar_cases hR y with ⟨b, hb, rfl⟩ | ⟨g1, g2⟩
        · exact isBar_in (hR.2.2.1 0 (by omega)) hB.1 hb (br_f (by decide) (in_out gz (nb_f rfl ⟨rfl, hI⟩)))
        · exact isBar_out g2 (br_t rfl ⟨rfl, hI⟩)
  · refine hasPerson_out g1 (br_t rfl ?_)
    unfold w_X7_odds
    exact isPerson_out g2 (br_t rfl ⟨rfl, hI⟩)
