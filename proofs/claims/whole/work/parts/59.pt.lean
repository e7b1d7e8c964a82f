/-! swaps: the class's side. -/
def EX (S : St) (n : Nat) (a t : Nat → Nat) : Prop := S.1 4700 0 = nI n ∧ ∀ k, k < n → S.1 47 k = nI (a k) ∧ S.1 48 k = nI (t k) ∧ a k < 2 ^ 31 ∧ t k < 2 ^ 31
theorem EX.cong {S : St} {n : Nat} {a b t : Nat → Nat} (h : EX S n a t) (e : ∀ k, k < n → a k = b k) : EX S n b t := ⟨h.1, fun k hk => by
  rw [← e k hk]
  exact h.2 k hk⟩
theorem exch_exch (a : Nat → Nat) (i j : Nat) (k : Nat) : exch (exch a i j) i j k = a k := by
  unfold exch
  by_cases c1 : k = i
  · rw [if_pos c1]
    by_cases c2 : j = i
    · rw [if_pos c2, c2, c1]
    · rw [if_neg c2, if_pos rfl, c1]
  · rw [if_neg c1]
    by_cases c2 : k = j
    · rw [if_pos c2, if_pos rfl, c2]
    · rw [if_neg c2, if_neg c1, if_neg c2]
theorem exchange_ok {S : St} {n i o : Nat} {a t : Nat → Nat} (hn : n ≤ 6) (hE : EX S n a t) (hi : i < n) (ho : o < n) {Q : St → Prop} (h : ∀ S2 : St, FR [47] S S2 → EX S2 n (exch a i o) t → Q S2) : w_X0_exchange S (nI i) (nI o) Q := by
  unfold w_X0_exchange
  refine ⟨vin (by omega), ?_⟩
  rintro _ rfl
  refine ⟨vin (by omega), vin (by omega), ?_⟩
  rintro _ rfl
  refine ⟨vin (by omega), ?_⟩
  rintro _ rfl
  rw [nI_clamp (by omega), nI_clamp (by omega)]
  refine h _ (FR.set (FR.set FR.rf (by decide)) (by decide)) ⟨hE.1, fun k hk => ⟨?_, (hE.2 k hk).2.1, ?_, (hE.2 k hk).2.2.2⟩⟩
  · show upd (upd (S.1 47) i (S.1 47 o)) o (S.1 47 i) k = nI (exch a i o k)
    unfold exch
    by_cases c1 : k = o
    · rw [c1, pk_us]
      by_cases c2 : o = i
      · rw [if_pos c2, c2]
        exact (hE.2 i hi).1
      · rw [if_neg c2, if_pos rfl]
        exact (hE.2 i hi).1
    · rw [pk_un c1]
      by_cases c2 : k = i
      · rw [if_pos c2, c2, pk_us]
        exact (hE.2 o ho).1
      · rw [if_neg c2, if_neg c1, pk_un c2]
        exact (hE.2 k hk).1
  · unfold exch
    split
    · exact (hE.2 o ho).2.2.1
    · split
      · exact (hE.2 i hi).2.2.1
      · exact (hE.2 k hk).2.2.1
theorem wrg_c {S : St} {n : Nat} {a t : Nat → Nat} (hn : n ≤ 6) (hE : EX S n a t) {kx : Int32 → Prop} : ∀ (f k : Nat), k + f = n → kx (nI (wrg n a t f k)) → X0_fewestFrom_L3 S (nI n) kx (f + 1) (nI k)
  | 0, k, hk, h => by
    rw [X0_fewestFrom_L3]
    exact pk_le n k (fun _ => h) (fun c => absurd c (by omega)) rfl rfl
  | f + 1, k, hk, h => by
    rw [wrg] at h
    obtain ⟨e1, e2, b1, b2⟩ := hE.2 k (by omega)
    rw [X0_fewestFrom_L3]
    refine pk_le n k (fun c => absurd c (by omega)) (fun _ => ⟨vin (by omega), vin (by omega), ?_⟩) rfl rfl
    rw [nI_clamp (by omega), e1, e2]
    refine pk_eqN (a k) (t k) (fun c => ?_) (fun c => ?_)
    · rw [if_neg c] at h
      exact h
    · rw [if_pos c] at h
      rintro _ rfl
      rw [nI_1]
      exact wrg_c hn hE f (k + 1) (by omega) h
theorem bst_c {n i : Nat} {a t : Nat → Nat} {g : Nat → Nat} (hn : n ≤ 6) (hi : i < n) (hg : ∀ o, g o ≤ 100) {wr : St → Int32 → Int32 → (Int32 → St → Prop) → Prop} (hwr : ∀ (o : Nat) (S : St) (Q : Int32 → St → Prop), i < o → o < n → okO a t i o = true → EX S n (exch a i o) t → (∀ S2 : St, FR [47] S S2 → EX S2 n (exch a i o) t → Q (nI (g o)) S2) → wr S (nI n) (nI (i + 1)) Q) {kx : St → Int32 → Prop} : ∀ (r o v : Nat) (S : St), o + r = n → i < o → v ≤ 100 → EX S n a t → (∀ S2 : St, FR [47] S S2 → EX S2 n a t → kx S2 (nI (bst g (okO a t i) r o v))) → X0_fewestFrom_L44 wr (nI n) (nI i) kx (r + 1) S (nI v) (nI o)
  | 0, o, v, S, ho, hio, hv, hE, h => by
    rw [X0_fewestFrom_L44]
    exact pk_le n o (fun _ => h S FR.rf hE) (fun c => absurd c (by omega)) rfl rfl
  | r + 1, o, v, S, ho, hio, hv, hE, h => by
    obtain ⟨e1, e2, b1, b2⟩ := hE.2 o (by omega)
    obtain ⟨e3, e4, b3, b4⟩ := hE.2 i hi
    rw [bst] at h
    rw [X0_fewestFrom_L44]
    refine pk_le n o (fun c => absurd c (by omega)) (fun _ => ⟨vin (by omega), vin (by omega), ?_⟩) rfl rfl
    rw [nI_clamp (by omega), nI_clamp (by omega), e1, e4]
    refine pk_eqN (a o) (t i) (fun c => ?_) (fun c => ⟨vin (by omega), vin (by omega), ?_⟩)
    · have nok : ¬ okO a t i o = true := fun q => by
        unfold okO at q
        simp only [Bool.and_eq_true, decide_eq_true_eq] at q
        exact c q.1
      rw [if_neg nok] at h
      rintro _ rfl
      rw [nI_1]
      exact bst_c hn hi hg hwr r (o + 1) v S (by omega) (by omega) hv hE h
    · rw [e2]
      refine pk_eq (a o) (t o) (fun c2 => ?_) (fun c2 => ?_) rfl rfl
      · have nok : ¬ okO a t i o = true := fun q => by
          unfold okO at q
          simp only [Bool.and_eq_true, decide_eq_true_eq] at q
          exact q.2 c2
        rw [if_neg nok] at h
        rintro _ rfl
        rw [nI_1]
        exact bst_c hn hi hg hwr r (o + 1) v S (by omega) (by omega) hv hE h
      · have ok : okO a t i o = true := by
          unfold okO
          simp only [Bool.and_eq_true, decide_eq_true_eq]
          exact ⟨c, c2⟩
        rw [if_pos ok] at h
        refine exchange_ok hn hE hi (by omega) (fun S13 f13 E13 => ?_)
        rw [nI_1]
        refine hwr o S13 _ hio (by omega) ok E13 (fun S15 f15 E15 => ?_)
        rintro _ rfl
        refine exchange_ok hn E15 hi (by omega) (fun S17 f17 E17 => ?_)
        rintro _ rfl
        have E17' := E17.cong (fun k _ => exch_exch a i o k)
        have ff := (f13.tr f15).tr f17
        have hgo := hg o
        have e : (if (1 : Int32) + nI (g o) < nI v then (1 : Int32) + nI (g o) else nI v) = nI (if 1 + g o < v then 1 + g o else v) := by
          rw [show (1 : Int32) = nI 1 from rfl, nI_add]
          by_cases d : 1 + g o < v
          · rw [if_pos d, if_pos]
            rw [Int32.lt_iff_toInt_lt, nI_toInt (by omega), nI_toInt (by omega)]
            omega
          · rw [if_neg d, if_neg]
            rw [Int32.lt_iff_toInt_lt, nI_toInt (by omega), nI_toInt (by omega)]
            omega
        rw [e, nI_1]
        exact bst_c hn hi hg hwr r (o + 1) _ S17 (by omega) (by omega) (by split <;> omega) E17' (fun S2 f2 E2 => h S2 (ff.tr f2) E2)
theorem Fx_le {n : Nat} {t : Nat → Nat} : ∀ (d : Nat) (a : Nat → Nat) (fr : Nat), Fx n t d a fr ≤ 100
  | 0, a, fr => Nat.zero_le _
  | d + 1, a, fr => by
    rw [Fx]
    split
    · exact (bst_ok _ _ _).1
    · exact Nat.zero_le _
theorem ff_ok {n : Nat} {t : Nat → Nat} (hn : n ≤ 6) : ∀ (d : Nat) (a : Nat → Nat) (fr : Nat) (S : St) (Q : Int32 → St → Prop), n - fr < d → fr ≤ n → EX S n a t → (∀ S2 : St, FR [47] S S2 → EX S2 n a t → Q (nI (Fx n t d a fr)) S2) → w_X0_fewestFrom d S (nI n) (nI fr) Q
  | 0, a, fr, S, Q, hd, hf, hE, h => absurd hd (Nat.not_lt_zero _)
  | d + 1, a, fr, S, Q, hd, hf, hE, h => by
    obtain ⟨w1, w2, w3, w4⟩ := wrg_ok (a := a) (t := t) (n - fr) fr (show fr + (n - fr) = n by omega)
    rw [w_X0_fewestFrom]
    refine ⟨n - fr + 1, wrg_c hn hE (n - fr) fr (by omega) ?_⟩
    rw [Fx] at h
    generalize wrg n a t (n - fr) fr = i at *
    refine pk_lt i n (fun c => ?_) (fun c => ?_) rfl rfl
    · rw [if_pos c] at h
      rintro _ rfl
      rw [nI_1]
      refine ⟨n - (i + 1) + 1, bst_c hn c (g := fun o => Fx n t d (exch a i o) (i + 1)) (fun o => Fx_le d _ _) (fun o S2 Q2 o1 o2 _ hE2 h2 => ?_) (n - (i + 1)) (i + 1) 100 S (by omega) (by omega) (Nat.le_refl _) hE h⟩
      exact ff_ok hn d (exch a i o) (i + 1) S2 Q2 (by omega) (by omega) hE2 h2
    · rw [if_neg (by omega)] at h
      exact h S FR.rf hE
/-- the bars that were seen, in their order -/
def spN (Z : Nat → Nat) : Nat → Nat × (Nat → Nat)
  | 0 => (0, fun _ => 0)
  | i + 1 => if Z i = 0 then spN Z i else ((spN Z i).1 + 1, fun k => if k = (spN Z i).1 then i else (spN Z i).2 k)
theorem spN_ok (Z : Nat → Nat) : ∀ i, (spN Z i).1 ≤ i ∧ ∀ k, k < (spN Z i).1 → (spN Z i).2 k < i ∧ Z ((spN Z i).2 k) ≠ 0
  | 0 => ⟨Nat.le_refl 0, fun k hk => absurd hk (Nat.not_lt_zero k)⟩
  | i + 1 => by
    obtain ⟨h1, h2⟩ := spN_ok Z i
    rw [spN]
    by_cases c : Z i = 0
    · rw [if_pos c]
      exact ⟨by omega, fun k hk => ⟨by have := (h2 k hk).1; omega, (h2 k hk).2⟩⟩
    · rw [if_neg c]
      refine ⟨by show (spN Z i).1 + 1 ≤ i + 1; omega, fun k hk => ?_⟩
      have hk' : k < (spN Z i).1 + 1 := hk
      show (if k = (spN Z i).1 then i else (spN Z i).2 k) < i + 1 ∧ Z (if k = (spN Z i).1 then i else (spN Z i).2 k) ≠ 0
      by_cases d : k = (spN Z i).1
      · rw [if_pos d]
        exact ⟨by omega, c⟩
      · rw [if_neg d]
        have := h2 k (by omega)
        exact ⟨by omega, this.2⟩
def aN (T X Z : Nat → Nat) (i : Nat) : Nat → Nat := fun k => rustN T X ((spN Z i).2 k) 9
def tN (Z : Nat → Nat) (i : Nat) : Nat → Nat := fun k => Z ((spN Z i).2 k) - 1
theorem rustN_le {S : St} {T X Z : Nat → Nat} (hR : RAIL S T) (hW : NOW S T X Z) {b : Nat} (hb : b < T 0) : rustN T X b 9 ≤ 2000 := by
  have h1 := plainN_le hR hb (Nat.le_refl 10)
  have hv := hW.2.2.2.2.1
  have hx := hW.1
  have h2 := sm_le (f := heldN T X b 9) (c := 90) (n := X 0) (fun k hk => by
    obtain ⟨v1, v2, v3, v4, v5⟩ := hv k hk
    have g := (hR.2.2.2.2.1 _ v1).2.2
    unfold heldN
    split
    · have s := sm_le (f := fun i => if X (25 + k) + i ≤ 9 then dry1 T b (X (25 + k) + i) else 0) (c := 1) (n := X (37 + k)) (fun i _ => by
        show (if X (25 + k) + i ≤ 9 then dry1 T b (X (25 + k) + i) else 0) ≤ 1
        split
        · unfold dry1
          split <;> omega
        · omega)
      calc T (10 + X (1 + k)) * sm (fun i => if X (25 + k) + i ≤ 9 then dry1 T b (X (25 + k) + i) else 0) (X (37 + k)) ≤ 9 * 10 := Nat.mul_le_mul g (by omega)
        _ = 90 := rfl
    · omega)
  have h3 : rustN T X b 9 = plainN T b 10 + sm (heldN T X b 9) (X 0) := rfl
  omega
theorem swaps_build {T X Z : Nat → Nat} {kx : St → Prop} : ∀ (j i : Nat) (S : St), i + j = T 0 → RAIL S T → NOW S T X Z → EX S (spN Z i).1 (aN T X Z i) (tN Z i) → (∀ S2 : St, FR [47, 48, 4700] S S2 → EX S2 (spN Z (T 0)).1 (aN T X Z (T 0)) (tN Z (T 0)) → kx S2) → X6_swaps_L10 kx (j + 1) S (nI i)
  | 0, i, S, hi, hR, hW, hE, h => by
    have hB := hR.1.1
    obtain rfl : i = T 0 := by omega
    rw [X6_swaps_L10]
    exact pk_le (T 0) (T 0) (fun _ => h S FR.rf hE) (fun c => absurd c (by omega)) hR.2.1.1 rfl
  | j + 1, i, S, hi, hR, hW, hE, h => by
    have hB := hR.1.1
    have hzz := hW.2.2.2.2.2.1 i (by omega)
    have hsp := spN_ok Z i
    rw [X6_swaps_L10]
    refine pk_le (T 0) i (fun c => absurd c (by omega)) (fun _ => ⟨vin (by omega), ?_⟩) hR.2.1.1 rfl
    rw [nI_clamp (by omega), hzz.1]
    by_cases c : Z i = 0
    · refine br_t ((enc_9 hzz.2.2).mpr c) ?_
      rintro _ rfl
      rw [nI_1]
      refine swaps_build j (i + 1) S (by omega) hR hW ?_ h
      have e : spN Z (i + 1) = spN Z i := by rw [spN, if_pos c]
      unfold aN tN at hE ⊢
      rw [e]
      exact hE
    · refine br_f (enc_n hzz.2.2 c) ?_
      refine rustByHolds_ok (y := 9) hR hW (by omega) (by omega) ⟨vin (by omega), ?_⟩
      have er := rustN_le hR hW (show i < T 0 by omega)
      have ez : enc (Z i) = nI (Z i - 1) := by unfold enc; rw [if_neg c]
      rw [ez]
      unfold w_X0_add
      refine pk_le 6 (spN Z i).1 (fun d => absurd d (by omega)) (fun _ => ⟨vin' (spN Z i).1 (by omega) hE.1, ?_⟩) rfl hE.1
      rintro _ rfl
      refine ⟨vin' (spN Z i).1 (by omega) hE.1, ?_⟩
      rintro _ rfl _ rfl _ rfl
      rw [nI_1]
      have ec : S.1 4700 0 = nI (spN Z i).1 := hE.1
      generalize hS6 : setI (setA (setA S 47 (upd (S.1 47) (S.1 4700 0).toNatClampNeg (nI (rustN T X i 9)))) 48 (upd ((setA S 47 (upd (S.1 47) (S.1 4700 0).toNatClampNeg (nI (rustN T X i 9)))).1 48) ((setA S 47 (upd (S.1 47) (S.1 4700 0).toNatClampNeg (nI (rustN T X i 9)))).1 4700 0).toNatClampNeg (nI (Z i - 1)))) 4700 ((setA (setA S 47 (upd (S.1 47) (S.1 4700 0).toNatClampNeg (nI (rustN T X i 9)))) 48 (upd ((setA S 47 (upd (S.1 47) (S.1 4700 0).toNatClampNeg (nI (rustN T X i 9)))).1 48) ((setA S 47 (upd (S.1 47) (S.1 4700 0).toNatClampNeg (nI (rustN T X i 9)))).1 4700 0).toNatClampNeg (nI (Z i - 1)))).1 4700 0 + 1) = S6
      have hF : FR [47, 48, 4700] S S6 := by
        rw [← hS6]
        exact FR.set (FR.set (FR.set FR.rf (by decide)) (by decide)) (by decide)
      have g47 : S6.1 47 = upd (S.1 47) (spN Z i).1 (nI (rustN T X i 9)) := by
        rw [← hS6]
        show upd (S.1 47) (S.1 4700 0).toNatClampNeg _ = _
        rw [ec, nI_clamp (by omega)]
      have g48 : S6.1 48 = upd (S.1 48) (spN Z i).1 (nI (Z i - 1)) := by
        rw [← hS6]
        show upd (S.1 48) (S.1 4700 0).toNatClampNeg _ = _
        rw [ec, nI_clamp (by omega)]
      have g4700 : S6.1 4700 0 = nI ((spN Z i).1 + 1) := by
        rw [← hS6]
        show S.1 4700 0 + 1 = _
        rw [ec, nI_1]
      refine swaps_build j (i + 1) S6 (by omega) (hR.fr hF) (hW.fr hF) ?_ (fun S2 f2 E2 => h S2 (hF.tr f2) E2)
      have e : spN Z (i + 1) = ((spN Z i).1 + 1, fun k => if k = (spN Z i).1 then i else (spN Z i).2 k) := by rw [spN, if_neg c]
      unfold aN tN
      rw [e]
      refine ⟨g4700, fun k hk => ?_⟩
      have hk' : k < (spN Z i).1 + 1 := hk
      show S6.1 47 k = nI (rustN T X (if k = (spN Z i).1 then i else (spN Z i).2 k) 9) ∧ S6.1 48 k = nI (Z (if k = (spN Z i).1 then i else (spN Z i).2 k) - 1) ∧ rustN T X (if k = (spN Z i).1 then i else (spN Z i).2 k) 9 < 2 ^ 31 ∧ Z (if k = (spN Z i).1 then i else (spN Z i).2 k) - 1 < 2 ^ 31
      rw [g47, g48]
      by_cases d : k = (spN Z i).1
      · rw [if_pos d, d, pk_us, pk_us]
        have := hzz.2.2
        exact ⟨rfl, rfl, by omega, by omega⟩
      · rw [if_neg d, pk_un d, pk_un d]
        exact hE.2 k (by omega)
/-- the class's answer -/
def swA (T X Z : Nat → Nat) : Int32 := if Fx (spN Z (T 0)).1 (tN Z (T 0)) 8 (aN T X Z (T 0)) 0 < 100 then nI (Fx (spN Z (T 0)).1 (tN Z (T 0)) 8 (aN T X Z (T 0)) 0) else -9
theorem swaps_c {S : St} {T X Z : Nat → Nat} (hR : RAIL S T) (hW : NOW S T X Z) {Q : Int32 → St → Prop} (h : ∀ S2 : St, FR scr S S2 → Q (swA T X Z) S2) : w_X6_swaps S Q := by
  have hB := hR.1.1
  have hsp := (spN_ok Z (T 0)).1
  unfold w_X6_swaps
  rintro _ rfl
  have hF : FR [47, 48, 4700] S (setI S 4700 0) := FR.set FR.rf (by decide)
  refine ⟨T 0 + 1, swaps_build (T := T) (X := X) (Z := Z) (T 0) 0 _ (by omega) (hR.fr hF) (hW.fr hF) ⟨rfl, fun k hk => absurd hk (Nat.not_lt_zero k)⟩ (fun S2 f2 E2 => ?_)⟩
  unfold w_X0_fewest
  rw [E2.1]
  refine ff_ok (show (spN Z (T 0)).1 ≤ 6 by omega) 8 (aN T X Z (T 0)) 0 S2 _ (by omega) (Nat.zero_le _) E2 (fun S3 f3 _ => ?_)
  have hle := Fx_le (n := (spN Z (T 0)).1) (t := tN Z (T 0)) 8 (aN T X Z (T 0)) 0
  have go := h S3 ((hF.tr f2).mono (by decide) |>.tr (f3.mono (by decide)))
  unfold swA at go
  refine pk_le 100 (Fx (spN Z (T 0)).1 (tN Z (T 0)) 8 (aN T X Z (T 0)) 0) (fun c => ?_) (fun c => ?_) rfl rfl
  · rw [if_neg (by omega)] at go
    exact go
  · rw [if_pos c] at go
    exact go
