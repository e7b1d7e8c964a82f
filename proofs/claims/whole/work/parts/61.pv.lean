/-! swaps, the model's side: all rows gone through. -/
theorem spots_loop {T X Z : Nat → Nat} {kx : St → Int32 → Prop} : ∀ (j i : Nat) (S : St), i + j = T 0 → RAIL S T → NOW S T X Z → (∀ k, k < (spN Z i).1 → S.1 60 k = nI ((spN Z i).2 k)) → (∀ S2 : St, FR [60] S S2 → (∀ k, k < (spN Z (T 0)).1 → S2.1 60 k = nI ((spN Z (T 0)).2 k)) → kx S2 (nI (spN Z (T 0)).1)) → X7_swaps_L4 kx (j + 1) S (nI (spN Z i).1) (nI i)
  | 0, i, S, hi, hR, hW, hS, h => by
    have hB := hR.1.1
    obtain rfl : i = T 0 := by omega
    rw [X7_swaps_L4]
    exact ⟨vin (i := 0) (by omega), pk_le (T 0) (T 0) (fun _ => h S FR.rf hS) (fun c => absurd c (by omega)) (hR.2.2.1 0 (by omega)) rfl⟩
  | j + 1, i, S, hi, hR, hW, hS, h => by
    have hB := hR.1.1
    have hzz := hW.2.2.2.2.2.1 i (by omega)
    have hsp := spN_ok Z i
    have e49 : (49 : Int32) + nI i = nI (49 + i) := nI_add 49 i
    have es : S.1 53 (49 + i) = enc (Z i) := by
      have := hzz.2.1
      rwa [Nat.zero_add] at this
    rw [X7_swaps_L4]
    refine ⟨vin (i := 0) (by omega), pk_le (T 0) i (fun c => absurd c (by omega)) (fun _ => ?_) (hR.2.2.1 0 (by omega)) rfl⟩
    rw [e49]
    refine ⟨vin (by omega), ?_⟩
    rw [nI_clamp (by omega), es]
    by_cases c : Z i = 0
    · refine br_t ((enc_9 hzz.2.2).mpr c) ?_
      rintro _ rfl
      have e : spN Z (i + 1) = spN Z i := by rw [spN, if_pos c]
      have ih := spots_loop (kx := kx) j (i + 1) S (by omega) hR hW (by rw [e]; exact hS) h
      rw [e] at ih
      rw [nI_1]
      exact ih
    · refine br_f (enc_n hzz.2.2 c) ⟨vin (by omega), ?_⟩
      rintro _ rfl _ rfl _ rfl
      rw [nI_clamp (by omega), nI_1, nI_1]
      have e : spN Z (i + 1) = ((spN Z i).1 + 1, fun k => if k = (spN Z i).1 then i else (spN Z i).2 k) := by rw [spN, if_neg c]
      have hF : FR [60] S (setA S 60 (upd (S.1 60) (spN Z i).1 (nI i))) := FR.set FR.rf (by decide)
      have ih := spots_loop (kx := kx) j (i + 1) (setA S 60 (upd (S.1 60) (spN Z i).1 (nI i))) (by omega) (hR.fr hF) (hW.fr hF) (by
        rw [e]
        intro k hk
        have hk' : k < (spN Z i).1 + 1 := hk
        show upd (S.1 60) (spN Z i).1 (nI i) k = nI (if k = (spN Z i).1 then i else (spN Z i).2 k)
        by_cases d : k = (spN Z i).1
        · rw [if_pos d, d, pk_us]
        · rw [if_neg d, pk_un d]
          exact hS k (by omega)) (fun S2 f a => h S2 (hF.tr f) a)
      rw [e] at ih
      exact ih
theorem pow_loop {S : St} {n : Nat} (hn : n ≤ 6) {kx : Int32 → Prop} (h : kx (nI (n ^ n))) : ∀ (j i : Nat), i + j = n → X7_swaps_L48 S (nI n) kx (j + 1) (nI (n ^ i)) (nI i)
  | 0, i, hi => by
    obtain rfl : i = n := by omega
    rw [X7_swaps_L48]
    exact pk_le i i (fun _ => h) (fun c => absurd c (by omega)) rfl rfl
  | j + 1, i, hi => by
    rw [X7_swaps_L48]
    refine pk_le n i (fun c => absurd c (by omega)) (fun _ => ?_) rfl rfl
    rintro _ rfl _ rfl
    rw [pk_mul, nI_1, ← Nat.pow_succ]
    exact pow_loop hn h j (i + 1) (by omega)
theorem ali_dg {n : Nat} : ∀ (m c k : Nat), k < m → ali (dg n m c) k = c / n ^ k % n
  | 0, c, k, h => absurd h (Nat.not_lt_zero k)
  | m + 1, c, 0, h => by
    rw [Nat.pow_zero, Nat.div_one]
    rfl
  | m + 1, c, k + 1, h => by
    have e : ali (dg n (m + 1) c) (k + 1) = ali (dg n m (c / n)) k := rfl
    rw [e, ali_dg m (c / n) k (by omega), Nat.div_div_eq_div_mul, Nat.pow_succ, Nat.mul_comm]
theorem row_loop {n c : Nat} (hn : n ≤ 6) (hc : c < 2 ^ 31) {x y z : Int32} {kx : St → Int32 → Prop} : ∀ (j k : Nat) (S : St), k + j = n → mkM (dg n n c) k < 64 → (∀ i, i < k → S.1 61 i = nI (ali (dg n n c) i)) → (∀ S2 : St, FR [61] S S2 → (∀ i, i < n → S2.1 61 i = nI (ali (dg n n c) i)) → mkM (dg n n c) n < 64 → kx S2 (nI (mkM (dg n n c) n))) → X7_swaps_L85 (nI n) x y z kx (j + 1) S (nI (c / n ^ k)) (nI (mkM (dg n n c) k)) (nI k)
  | 0, k, S, hk, hm, hi, h => by
    obtain rfl : k = n := by omega
    rw [X7_swaps_L85]
    exact pk_le k k (fun _ => h S FR.rf hi hm) (fun c => absurd c (by omega)) rfl rfl
  | j + 1, k, S, hk, hm, hi, h => by
    have hle := Nat.div_le_self c (n ^ k)
    have ea : c / n ^ k % n = ali (dg n n c) k := (ali_dg n c k (by omega)).symm
    have hlt : ali (dg n n c) k < n := by
      rw [← ea]
      exact Nat.mod_lt _ (by omega)
    rw [X7_swaps_L85]
    refine pk_le n k (fun c => absurd c (by omega)) (fun _ => ⟨ne0_nI (by omega) (by omega), vin (by omega), ?_⟩) rfl rfl
    rw [nI_mod (by omega) (by omega), ea]
    rintro _ rfl
    refine ⟨ne0_nI (by omega) (by omega), ?_⟩
    rw [nI_div (by omega) (by omega), Nat.div_div_eq_div_mul, ← Nat.pow_succ]
    rintro _ rfl
    refine ⟨vin (by omega), ?_⟩
    rw [nI_clamp (by omega)]
    have er : (setA S 61 (upd (S.1 61) k (nI (ali (dg n n c) k)))).1 61 k = nI (ali (dg n n c) k) := pk_us
    obtain ⟨o1, o2⟩ := or_nI _ hm (ali (dg n n c) k) (by omega)
    rw [er, o1, nI_1]
    rintro _ rfl _ rfl
    have hF : FR [61] S (setA S 61 (upd (S.1 61) k (nI (ali (dg n n c) k)))) := FR.set FR.rf (by decide)
    refine row_loop hn hc j (k + 1) _ (by omega) o2 (fun i hi2 => ?_) (fun S2 f a b => h S2 (hF.tr f) a b)
    show upd (S.1 61) k (nI (ali (dg n n c) k)) i = nI (ali (dg n n c) i)
    by_cases d : i = k
    · rw [d, pk_us]
    · rw [pk_un d]
      exact hi i (by omega)
/-- does a row come out, so far -/
def coN (a t : Nat → Nat) (l : List Nat) : Nat → Nat
  | 0 => 1
  | k + 1 => if coN a t l k = 0 then 0 else if a (ali l k) = t k then 1 else 0
theorem coN_le (a t : Nat → Nat) (l : List Nat) : ∀ k, coN a t l k ≤ 1
  | 0 => Nat.le_refl 1
  | k + 1 => by
    rw [coN]
    split
    · omega
    · split <;> omega
theorem coN_z {a t : Nat → Nat} {l : List Nat} {k : Nat} (h : coN a t l k = 0) : ∀ m, coN a t l (k + m) = 0
  | 0 => h
  | m + 1 => by
    rw [← Nat.add_assoc, coN, if_pos (coN_z h m)]
theorem coN_iff (a t : Nat → Nat) (l : List Nat) : ∀ k, coN a t l k ≠ 0 ↔ ∀ i, i < k → a (ali l i) = t i
  | 0 => ⟨fun _ i hi => absurd hi (Nat.not_lt_zero i), fun _ => by rw [coN]; omega⟩
  | k + 1 => by
    have ih := coN_iff a t l k
    rw [coN]
    by_cases c : coN a t l k = 0
    · rw [if_pos c]
      exact ⟨fun q => absurd rfl q, fun q => absurd (ih.mpr (fun i hi => q i (by omega))) (fun z => z c)⟩
    · rw [if_neg c]
      by_cases d : a (ali l k) = t k
      · rw [if_pos d]
        refine ⟨fun _ i hi => ?_, fun _ => by omega⟩
        by_cases e : i = k
        · rw [e]
          exact d
        · exact ih.mp c i (by omega)
      · rw [if_neg d]
        exact ⟨fun q => absurd rfl q, fun q => absurd (q k (by omega)) d⟩
theorem comes_loop {S : St} {T X Z : Nat → Nat} (hR : RAIL S T) (hW : NOW S T X Z) {l : List Nat} (hS : ∀ k, k < (spN Z (T 0)).1 → S.1 60 k = nI ((spN Z (T 0)).2 k)) (hRow : ROW S (spN Z (T 0)).1 l) {kx : Int32 → Prop} (h : kx (nI (coN (aN T X Z (T 0)) (tN Z (T 0)) l (spN Z (T 0)).1))) : ∀ (j k : Nat), k + j = (spN Z (T 0)).1 → X7_comesOut_L4 S (nI (spN Z (T 0)).1) kx (j + 1) (nI (coN (aN T X Z (T 0)) (tN Z (T 0)) l k)) (nI k)
  | 0, k, hk => by
    have hB := hR.1.1
    have hsp := spN_ok Z (T 0)
    obtain rfl : k = (spN Z (T 0)).1 := by omega
    rw [X7_comesOut_L4]
    exact pk_le (spN Z (T 0)).1 (spN Z (T 0)).1 (fun _ => h) (fun c => absurd c (by omega)) rfl rfl
  | j + 1, k, hk => by
    have hB := hR.1.1
    have hsp := spN_ok Z (T 0)
    have ih := comes_loop hR hW hS hRow h j (k + 1) (by omega)
    have hcl := coN_le (aN T X Z (T 0)) (tN Z (T 0)) l k
    rw [coN] at ih
    rw [X7_comesOut_L4]
    refine pk_le (spN Z (T 0)).1 k (fun c => absurd c (by omega)) (fun _ => ?_) rfl rfl
    refine pk_eq (coN (aN T X Z (T 0)) (tN Z (T 0)) l k) 0 (fun c => ?_) (fun c => ⟨vin (by omega), ?_⟩) rfl rfl
    · have e := coN_z c (j + 1)
      rw [hk] at e
      rw [e] at h
      rw [c]
      exact h
    · rw [if_neg c] at ih
      obtain ⟨r1, r2⟩ := hRow.2 k (by omega)
      obtain ⟨s1, s2⟩ := hsp.2 _ r2
      obtain ⟨q1, q2⟩ := hsp.2 k (by omega)
      have hzz := hW.2.2.2.2.2.1 ((spN Z (T 0)).2 k) (by omega)
      have er := rustN_le hR hW s1
      rw [nI_clamp (by omega), r1]
      refine ⟨vin (by omega), ?_⟩
      rw [nI_clamp (by omega), hS _ r2, hS k (by omega)]
      refine rustOf_ok (y := 9) hR hW s1 (by omega) ⟨vin (by omega), ?_⟩
      have e49 : (49 : Int32) + nI ((spN Z (T 0)).2 k) = nI (49 + (spN Z (T 0)).2 k) := nI_add 49 _
      have es : S.1 53 (49 + (spN Z (T 0)).2 k) = nI (Z ((spN Z (T 0)).2 k) - 1) := by
        have := hzz.2.1
        rw [Nat.zero_add] at this
        rw [this]
        unfold enc
        rw [if_neg q2]
      rw [e49]
      refine ⟨vin (by omega), ?_⟩
      rw [nI_clamp (by omega), es]
      have hz3 := hzz.2.2
      refine pk_eqN (rustN T X ((spN Z (T 0)).2 (ali l k)) 9) (Z ((spN Z (T 0)).2 k) - 1) (fun d => ?_) (fun d => ?_)
      · rintro _ rfl
        have nd : ¬ aN T X Z (T 0) (ali l k) = tN Z (T 0) k := d
        rw [if_neg nd] at ih
        rw [nI_1]
        exact ih
      · rintro _ rfl
        have yd : aN T X Z (T 0) (ali l k) = tN Z (T 0) k := d
        rw [if_pos yd] at ih
        rw [nI_1]
        exact ih
