/-! swaps: both answers are one. -/
theorem dg_mem {n c : Nat} : ∀ d, d ∈ dg n n c → d < n := by
  intro d hd
  by_cases z : n = 0
  · subst z
    cases hd
  · exact dg_lt (by omega) n c d hd
theorem sc_sol {a t : Nat → Nat} {n c : Nat} (h : scC a t n c ≠ 0) : SolP n a t (dg n n c) ∧ scC a t n c = dN n (dg n n c) + 1 := by
  unfold scC at h ⊢
  by_cases q : mkM (dg n n c) n = 2 ^ n - 1 ∧ coN a t (dg n n c) n ≠ 0
  · rw [if_pos q]
    exact ⟨⟨(mkM_full (dg_len n n c) dg_mem).mp q.1, (coN_iff a t _ n).mp q.2⟩, rfl⟩
  · rw [if_neg q] at h
    exact absurd rfl h
theorem sol_sc {a t : Nat → Nat} {n : Nat} {l : List Nat} (h : SolP n a t l) : ∃ c, c < n ^ n ∧ scC a t n c = dN n l + 1 := by
  obtain ⟨⟨h1, h2, h3⟩, h4⟩ := h
  have ex : ∃ c, c < n ^ n ∧ dg n n c = l := by
    by_cases z : n = 0
    · subst z
      exact ⟨0, by decide, (List.length_eq_zero_iff.mp h1).symm⟩
    · have := dg_surj (show 0 < n by omega) l h2
      rw [h1] at this
      exact this
  obtain ⟨c, hc, e⟩ := ex
  refine ⟨c, hc, ?_⟩
  unfold scC
  rw [e, if_pos ⟨(mkM_full h1 h2).mpr ⟨h1, h2, h3⟩, (coN_iff a t l n).mpr h4⟩]
theorem swA_eq {T X Z : Nat → Nat} (hB : T 0 ≤ 6) : swA T X Z = enc (bsC (scC (aN T X Z (T 0)) (tN Z (T 0)) (spN Z (T 0)).1) ((spN Z (T 0)).1 ^ (spN Z (T 0)).1)) := by
  have hsp := (spN_ok Z (T 0)).1
  unfold swA
  generalize aN T X Z (T 0) = a
  generalize tN Z (T 0) = t
  generalize (spN Z (T 0)).1 = n at *
  obtain ⟨m1, m2, m3⟩ := Fx_min (t := t) (show n ≤ 6 by omega) 8 a 0 (by omega) (Nat.zero_le _) (fun k hk => absurd hk (Nat.not_lt_zero k))
  obtain ⟨b1, b2, b3⟩ := bsC_ok (f := scC a t n) (n ^ n)
  generalize Fx n t 8 a 0 = F at *
  generalize bsC (scC a t n) (n ^ n) = b at *
  by_cases c : F < 100
  · rw [if_pos c]
    obtain ⟨l, hs, e⟩ := m3 c
    obtain ⟨k, hk, e2⟩ := sol_sc hs
    have bne : b ≠ 0 := fun q => by
      have := b1 q k hk
      omega
    have le1 := b3 k hk (by omega)
    obtain ⟨k2, hk2, e3⟩ := b2 bne
    obtain ⟨s2, e4⟩ := sc_sol (a := a) (t := t) (n := n) (c := k2) (by omega)
    have le2 := m2 _ s2
    have eb : b = F + 1 := by omega
    rw [eb, enc_s]
  · rw [if_neg c]
    have b0 : b = 0 := by
      by_cases z : b = 0
      · exact z
      · obtain ⟨k2, hk2, e3⟩ := b2 z
        obtain ⟨s2, e4⟩ := sc_sol (a := a) (t := t) (n := n) (c := k2) (by omega)
        have le2 := m2 _ s2
        have : dN n (dg n n k2) ≤ n := by
          unfold dN
          omega
        omega
    rw [b0]
    rfl
theorem ok_swaps {S : St} (h : INV S) : w_X6_swaps S (fun r S1 => w_X7_swaps S1 (fun r2 S2 => r = r2 ∧ INV S2)) := by
  have hI := h
  obtain ⟨T, X, Z, nt, hR, hW, hT, h0, h1, ht⟩ := h
  have hB := hR.1.1
  have hsp := (spN_ok Z (T 0)).1
  refine swaps_c hR hW (fun S2 f2 => ?_)
  unfold w_X7_swaps
  refine ⟨T 0 + 1, spots_loop (T := T) (X := X) (Z := Z) (T 0) 0 S2 (by omega) (hR.fr f2) (hW.fr f2) (fun k hk => absurd hk (Nat.not_lt_zero k)) (fun S3 f3 s3 => ?_)⟩
  have f23 : FR scr S S3 := f2.tr (f3.mono (by decide))
  refine ⟨(spN Z (T 0)).1 + 1, pow_loop (show (spN Z (T 0)).1 ≤ 6 by omega) ?_ (spN Z (T 0)).1 0 (by omega)⟩
  refine ⟨(spN Z (T 0)).1 ^ (spN Z (T 0)).1 + 1, codes_loop (X := X) ((spN Z (T 0)).1 ^ (spN Z (T 0)).1) 0 S3 (by omega) (hR.fr f23) (hW.fr f23) s3 (fun S4 f4 => ⟨swA_eq hB, hI.frame (f23.tr (f4.mono (by decide)))⟩)⟩
