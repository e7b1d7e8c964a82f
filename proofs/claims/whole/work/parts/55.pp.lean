/-! scrape, whole. -/
theorem LW_le {T Z : Nat → Nat} (hT : T 0 ≤ 6 ∧ T 1 ≤ 3) (b : Nat) : LW T Z b ≤ 2000000000 := by
  have hp8 := pow_le8 (T 1) hT.2
  refine mxN_le (fun t _ => ?_)
  have := sm_le (f := LWs T Z b t) (c := 226981000) (n := 2 ^ T 1) (fun s hs => by
    unfold LWs
    have h1 := WB_le (Z := Z) hT (off allT b) s
    have h2 : Fq (kS T t) b (ls (T 1) s) 0 ≤ 1000 := by
      refine Nat.le_trans (Fq_le (k := kS T t) (fun _ x => by show (if x = t then 1 else 0) ≤ 1; split <;> omega) (fun _ _ _ => Nat.le_refl 1) b _ 0) ?_
      calc 10 ^ (ls (T 1) s).length ≤ 10 ^ 3 := Nat.pow_le_pow_right (by omega) (ls_len _ hT.2 s (by omega))
        _ = 1000 := rfl
    calc WB T Z (off allT b) s * Fq (kS T t) b (ls (T 1) s) 0 ≤ 226981 * 1000 := Nat.mul_le_mul h1 h2
      _ = 226981000 := rfl)
  have h3 : 2 ^ T 1 * 226981000 ≤ 8 * 226981000 := Nat.mul_le_mul hp8.1 (Nat.le_refl _)
  exact Nat.le_trans this (Nat.le_trans h3 (Nat.le_of_ble_eq_true rfl))
theorem wf_le {T Z : Nat → Nat} (hT : T 0 ≤ 6 ∧ T 1 ≤ 3) (b : Nat) : wfN T Z b ≤ 2000000000 := by
  unfold wfN
  split
  · exact LW_le hT b
  · exact Nat.zero_le _
theorem scN_none {f : Nat → Nat} : ∀ i, (∀ k, k < i → f k = 0) → scN f i = (0, 0)
  | 0, _ => rfl
  | i + 1, h => by
    rw [scN, if_pos (h i (by omega))]
    exact scN_none i (fun k hk => h k (by omega))
theorem scrape_m {T X Z : Nat → Nat} {S0 S3 : St} (hI : INV S0) (f3 : FR scr S0 S3) (hR : RAIL S0 T) (hW : NOW S0 T X Z) {w : Nat} (hw : w ≤ 1) (v : Int32) (hv : v = if w = 0 then enc (scN (wfN T Z) (T 0)).1 else if (scN (wfN T Z) (T 0)).1 = 0 then -9 else nI (scN (wfN T Z) (T 0)).2) : w_X7_scrape S3 (nI w) (fun r2 S4 => v = r2 ∧ INV S4) := by
  have hB : T 0 ≤ 6 ∧ T 1 ≤ 3 := ⟨hR.1.1, hR.1.2.1⟩
  unfold w_X7_scrape
  refine in_in 0 1 w (by omega) hw (nb_t (by decide) (lays_ok (hR.fr f3) (fun S4 f4 l4 => ?_)))
  have f04 : FR scr S0 S4 := f3.tr (f4.mono (by decide))
  refine ⟨2401, zero_loop 2400 0 S4 (by omega) (fun k hk => absurd hk (Nat.not_lt_zero k)) (fun S5 f5 z5 => ?_)⟩
  have f05 : FR scr S0 S5 := f04.tr (f5.mono (by decide))
  refine ⟨DD T ^ T 1 + 1, many_loop (X := X) (Z := Z) (DD T ^ T 1) 0 S5 (by omega) (hR.fr f05) (hW.fr f05) (l4.fr f5) (fun b k hb hk => z5 _ (by omega)) (fun S6 f6 m6 => ?_)⟩
  have f06 : FR scr S0 S6 := f05.tr (f6.mono (by decide))
  have hJ := hI.frame f06
  have hle := scN_le (f := wfN T Z) (T 0)
  refine ⟨T 0 + 1, fewest_m (hR.fr f06) (hW.fr f06) m6 (wf_le hB) ?_ (T 0) 0 (by omega)⟩
  refine pk_eq w 0 (fun c => ⟨?_, hJ⟩) (fun c => ?_) rfl rfl
  · rw [hv, if_pos c]
  · rw [if_neg c] at hv
    by_cases d : (scN (wfN T Z) (T 0)).1 = 0
    · rw [if_pos d] at hv
      refine nb_f (by rw [d]; rfl) ⟨?_, hJ⟩
      rw [hv, d]
      rfl
    · rw [if_neg d] at hv
      exact nb_t (enc_n (by omega) d) ⟨hv, hJ⟩
theorem ok_scrape {S : St} (h : INV S) (x : Int32) : w_X6_scrape S x (fun r S1 => w_X7_scrape S1 x (fun r2 S2 => r = r2 ∧ INV S2)) := by
  have hI := h
  obtain ⟨T, X, Z, nt, hR, hW, hT, h0, h1, ht⟩ := h
  have hB : T 0 ≤ 6 ∧ T 1 ≤ 3 := ⟨hR.1.1, hR.1.2.1⟩
  have hD := DD_le hB
  unfold w_X6_scrape
  rcases rng_cases x 0 1 (by omega) (by omega) with ⟨w, -, hw, rfl⟩ | g
  · refine within_in 0 1 w (by omega) hw (nb_t (by decide) (learn_ok hR hW (fun S1 f1 l1 => all_ok hB l1 (fun S2 f2 l2 => ?_))))
    have f12 : FR scr S S2 := f1.tr (f2.mono (by decide))
    have hw0 := WB_le (Z := Z) hB allT 0
    refine pk_eqN (WB T Z allT 0) 0 (fun c => ?_) (fun c => ?_)
    · refine ⟨T 0 + 1, fewest_c (X := X) (x := nI w) c (wf_le hB) (T 0) 0 S2 (by omega) (hR.fr f12) (hW.fr f12) l2 (fun S3 f3 => ?_)⟩
      have f13 : FR scr S S3 := f12.tr (f3.mono (by decide))
      refine pk_eqN w 0 (fun d => ?_) (fun d => ?_)
      · exact scrape_m hI f13 hR hW hw _ (by rw [if_neg d])
      · exact scrape_m hI f13 hR hW hw _ (by rw [if_pos d])
    · refine scrape_m hI f12 hR hW hw _ ?_
      have e : scN (wfN T Z) (T 0) = (0, 0) := scN_none (T 0) (fun k hk => by
        unfold wfN
        by_cases hz : Z k = 0
        · rw [if_pos hz]
          exact (left_pos hR hk hz).mpr c
        · rw [if_neg hz])
      rw [e]
      split <;> rfl
  · refine within_out g (nb_f rfl ?_)
    unfold w_X7_scrape
    exact in_out g (nb_f rfl ⟨rfl, hI⟩)
