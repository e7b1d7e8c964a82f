/-! swaps, whole. -/
def scC (a t : Nat → Nat) (n c : Nat) : Nat := if mkM (dg n n c) n = 2 ^ n - 1 ∧ coN a t (dg n n c) n ≠ 0 then dN n (dg n n c) + 1 else 0
def bsC (f : Nat → Nat) : Nat → Nat
  | 0 => 0
  | i + 1 => if f i = 0 then bsC f i else if bsC f i = 0 then f i else if bsC f i ≤ f i then bsC f i else f i
theorem bsC_ok {f : Nat → Nat} : ∀ i, (bsC f i = 0 → ∀ c, c < i → f c = 0) ∧ (bsC f i ≠ 0 → ∃ c, c < i ∧ f c = bsC f i) ∧ ∀ c, c < i → f c ≠ 0 → bsC f i ≤ f c
  | 0 => ⟨fun _ c hc => absurd hc (Nat.not_lt_zero c), fun q => absurd rfl q, fun c hc => absurd hc (Nat.not_lt_zero c)⟩
  | i + 1 => by
    obtain ⟨h1, h2, h3⟩ := bsC_ok (f := f) i
    rw [bsC]
    by_cases c0 : f i = 0
    · rw [if_pos c0]
      refine ⟨fun q c hc => ?_, fun q => ?_, fun c hc hf => ?_⟩
      · by_cases d : c = i
        · rw [d]
          exact c0
        · exact h1 q c (by omega)
      · obtain ⟨c, hc, e⟩ := h2 q
        exact ⟨c, by omega, e⟩
      · by_cases d : c = i
        · rw [d] at hf
          exact absurd c0 hf
        · exact h3 c (by omega) hf
    · rw [if_neg c0]
      by_cases c1 : bsC f i = 0
      · rw [if_pos c1]
        refine ⟨fun q => absurd q c0, fun _ => ⟨i, by omega, rfl⟩, fun c hc hf => ?_⟩
        by_cases d : c = i
        · rw [d]
          exact Nat.le_refl _
        · exact absurd (h1 c1 c (by omega)) hf
      · rw [if_neg c1]
        by_cases c2 : bsC f i ≤ f i
        · rw [if_pos c2]
          refine ⟨fun q => absurd q c1, fun q => ?_, fun c hc hf => ?_⟩
          · obtain ⟨c, hc, e⟩ := h2 q
            exact ⟨c, by omega, e⟩
          · by_cases d : c = i
            · rw [d]
              exact c2
            · exact h3 c (by omega) hf
        · rw [if_neg c2]
          refine ⟨fun q => absurd q c0, fun _ => ⟨i, by omega, rfl⟩, fun c hc hf => ?_⟩
          by_cases d : c = i
          · rw [d]
            exact Nat.le_refl _
          · have := h3 c (by omega) hf
            omega
theorem scC_le {a t : Nat → Nat} {n : Nat} (hn : n ≤ 6) (c : Nat) : scC a t n c ≤ 7 := by
  unfold scC dN
  split <;> omega
theorem bsC_le {f : Nat → Nat} (h : ∀ c, f c ≤ 7) (i : Nat) : bsC f i ≤ 7 := by
  by_cases c : bsC f i = 0
  · omega
  · obtain ⟨k, _, e⟩ := (bsC_ok (f := f) i).2.1 c
    rw [← e]
    exact h k
theorem full_e : ∀ n, n ≤ 6 → (1 : Int32) <<< (nI n &&& 31) - 1 = nI (2 ^ n - 1) ∧ 2 ^ n - 1 < 64 ∧ n ^ n ≤ 46656 := by decide
theorem row_start {n c : Nat} (hn : n ≤ 6) (hc : c < 2 ^ 31) {x y z : Int32} {kx : St → Int32 → Prop} {S : St} (h : ∀ S2 : St, FR [61] S S2 → (∀ i, i < n → S2.1 61 i = nI (ali (dg n n c) i)) → mkM (dg n n c) n < 64 → kx S2 (nI (mkM (dg n n c) n))) : X7_swaps_L85 (nI n) x y z kx (n + 1) S (nI c) 0 0 := by
  have row := row_loop (x := x) (y := y) (z := z) (kx := kx) hn hc n 0 S (by omega) (by show (0 : Nat) < 64; decide) (fun i hi => absurd hi (Nat.not_lt_zero i)) h
  rw [Nat.pow_zero, Nat.div_one] at row
  exact row
theorem codes_loop {T X Z : Nat → Nat} {kx : St → Int32 → Prop} : ∀ (j i : Nat) (S : St), i + j = (spN Z (T 0)).1 ^ (spN Z (T 0)).1 → RAIL S T → NOW S T X Z → (∀ k, k < (spN Z (T 0)).1 → S.1 60 k = nI ((spN Z (T 0)).2 k)) → (∀ S2 : St, FR [61] S S2 → kx S2 (enc (bsC (scC (aN T X Z (T 0)) (tN Z (T 0)) (spN Z (T 0)).1) ((spN Z (T 0)).1 ^ (spN Z (T 0)).1)))) → X7_swaps_L69 (nI (spN Z (T 0)).1) (nI ((spN Z (T 0)).1 ^ (spN Z (T 0)).1)) kx (j + 1) S (enc (bsC (scC (aN T X Z (T 0)) (tN Z (T 0)) (spN Z (T 0)).1) i)) (nI i)
  | 0, i, S, hi, hR, hW, hS, h => by
    have hB := hR.1.1
    have hsp := (spN_ok Z (T 0)).1
    obtain ⟨f1, f2, f3⟩ := full_e (spN Z (T 0)).1 (by omega)
    obtain rfl : i = (spN Z (T 0)).1 ^ (spN Z (T 0)).1 := by omega
    rw [X7_swaps_L69]
    exact pk_le _ _ (fun _ => h S FR.rf) (fun c => absurd c (Nat.lt_irrefl _)) rfl rfl
  | j + 1, i, S, hi, hR, hW, hS, h => by
    have hB := hR.1.1
    have hsp := (spN_ok Z (T 0)).1
    obtain ⟨f1, f2, f3⟩ := full_e (spN Z (T 0)).1 (by omega)
    have ih := fun (S2 : St) (f : FR [61] S S2) => codes_loop (kx := kx) j (i + 1) S2 (by omega) (hR.fr f) (hW.fr f) (fun k hk => by rw [f.1 60 (by decide)]; exact hS k hk) (fun S3 f3 => h S3 (f.tr f3))
    rw [X7_swaps_L69]
    refine pk_le ((spN Z (T 0)).1 ^ (spN Z (T 0)).1) i (fun c => absurd c (by omega)) (fun _ => ?_) rfl rfl
    refine ⟨(spN Z (T 0)).1 + 1, row_start (show (spN Z (T 0)).1 ≤ 6 by omega) (by omega) ?_⟩
    · intro S39 f39 r39 m39
      have ih2 := ih S39 f39
      rw [bsC] at ih2
      have hb7 := bsC_le (f := scC (aN T X Z (T 0)) (tN Z (T 0)) (spN Z (T 0)).1) (fun c => scC_le (by omega) c) i
      have hRow : ROW S39 (spN Z (T 0)).1 (dg (spN Z (T 0)).1 (spN Z (T 0)).1 i) := ⟨dg_len _ _ _, fun k hk => ⟨r39 k hk, dg_lt (by omega) _ _ _ (ali_mem (by rw [dg_len]; exact hk))⟩⟩
      have hcl := coN_le (aN T X Z (T 0)) (tN Z (T 0)) (dg (spN Z (T 0)).1 (spN Z (T 0)).1 i) (spN Z (T 0)).1
      rw [f1]
      refine pk_eqN (mkM (dg (spN Z (T 0)).1 (spN Z (T 0)).1 i) (spN Z (T 0)).1) (2 ^ (spN Z (T 0)).1 - 1) (fun c => ?_) (fun c => ?_)
      · have e : scC (aN T X Z (T 0)) (tN Z (T 0)) (spN Z (T 0)).1 i = 0 := if_neg (fun q => c q.1)
        rw [if_pos e] at ih2
        rintro _ rfl
        rw [nI_1]
        exact ih2
      · unfold w_X7_comesOut
        refine ⟨(spN Z (T 0)).1 + 1, comes_loop (hR.fr f39) (hW.fr f39) (fun k hk => by rw [f39.1 60 (by decide)]; exact hS k hk) hRow ⟨?_, ?_⟩ (spN Z (T 0)).1 0 (by omega)⟩
        · rcases (by omega : coN (aN T X Z (T 0)) (tN Z (T 0)) (dg (spN Z (T 0)).1 (spN Z (T 0)).1 i) (spN Z (T 0)).1 = 0 ∨ coN (aN T X Z (T 0)) (tN Z (T 0)) (dg (spN Z (T 0)).1 (spN Z (T 0)).1 i) (spN Z (T 0)).1 = 1) with e | e
          · rw [e]
            exact zok0
          · rw [e]
            exact zok1
        · refine pk_eq (coN (aN T X Z (T 0)) (tN Z (T 0)) (dg (spN Z (T 0)).1 (spN Z (T 0)).1 i) (spN Z (T 0)).1) 0 (fun d => ?_) (fun d => ?_) rfl rfl
          · have e : scC (aN T X Z (T 0)) (tN Z (T 0)) (spN Z (T 0)).1 i = 0 := if_neg (fun q => q.2 d)
            rw [if_pos e] at ih2
            rintro _ rfl
            rw [nI_1]
            exact ih2
          · have e : scC (aN T X Z (T 0)) (tN Z (T 0)) (spN Z (T 0)).1 i = dN (spN Z (T 0)).1 (dg (spN Z (T 0)).1 (spN Z (T 0)).1 i) + 1 := if_pos ⟨c, d⟩
            rw [e, if_neg (Nat.succ_ne_zero _)] at ih2
            have hdn : dN (spN Z (T 0)).1 (dg (spN Z (T 0)).1 (spN Z (T 0)).1 i) ≤ 6 := by
              unfold dN
              omega
            refine exchanges_ok (by omega) hRow ?_
            generalize dN (spN Z (T 0)).1 (dg (spN Z (T 0)).1 (spN Z (T 0)).1 i) = v at *
            generalize hbb : bsC (scC (aN T X Z (T 0)) (tN Z (T 0)) (spN Z (T 0)).1) i = bb at *
            by_cases b0 : bb = 0
            · rw [if_pos b0, enc_s] at ih2
              refine br_t (by rw [b0]; rfl) ?_
              rintro _ rfl
              rw [nI_1]
              exact ih2
            · rw [if_neg b0] at ih2
              have eb : enc bb = nI (bb - 1) := by unfold enc; rw [if_neg b0]
              refine br_f (enc_n (by omega) b0) ?_
              rw [eb]
              refine pk_le (bb - 1) v (fun q => ?_) (fun q => ?_) rfl rfl
              · rw [if_pos (by omega), eb] at ih2
                rintro _ rfl
                rw [nI_1]
                exact ih2
              · rw [if_neg (by omega), enc_s] at ih2
                rintro _ rfl
                rw [nI_1]
                exact ih2
