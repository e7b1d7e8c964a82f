theorem lw_gt {i L : Nat} (hL : L ≤ 320) (h : L < i + 5) (hi : i ≤ L) : Int32.ofNat L - 5 < nI i := by
  apply Int32.lt_iff_toInt_lt.mpr
  rw [show Int32.ofNat L - 5 = nI L - nI 5 from rfl, pk_sub_toInt (by omega) (by omega), nI_toInt (by omega)]
  omega
theorem lw_ngt {i L : Nat} (hL : L ≤ 320) (h1 : i ≤ L) (z : ¬ Int32.ofNat L - 5 < nI i) : i + 5 ≤ L := by
  by_cases h : L < i + 5
  · exact absurd (lw_gt hL h h1) z
  · omega
theorem lw_in {i L : Nat} (hL : L ≤ 320) (k : Nat) (h : i + k < L) {y : Int32} (hy : y = nI k := by rfl) : vp_in (nI i + y) L := by
  rw [hy, nI_add]; exact vin h
set_option maxRecDepth 100000 in
set_option maxHeartbeats 8000000 in
theorem law_loop {Z : Zt} {e : GE} {b L : Nat} {xs : Nat → Int32} (hX : SX Z b L xs) (hL : L ≤ 320) (kend : ∀ (x : Int32) (S : St), MW Z e cL_law 4 RL 2000 877 [(0, .ref b), (1, .ref (e.2.2.1 0)), (2, .ref (e.2.2.1 49)), (3, .int x)] [] S) : ∀ (j i : Nat), i ≤ L → L ≤ i + j → ∀ S : St, INV S → MW Z e cL_law 4 RL 2000 18 [(0, .ref b), (1, .ref (e.2.2.1 0)), (2, .ref (e.2.2.1 49)), (3, .int (nI i))] [] S := by
  intro j
  induction j with
  | zero =>
    intro i h1 h2 S hI
    refine m_iload_n dL_law_18 3 rfl rfl ?_
    refine m_aload_n dL_law_19 0 rfl rfl ?_
    refine m_slen hX dL_law_20 ?_
    refine m_iconst (v := 5) dL_law_21 (by decide) ?_
    refine m_isub dL_law_22 ?_
    exact m_icmp_gt (tgt := 877) dL_law_23 (by decide) (fun _ => kend _ S) (fun z => absurd (lw_gt hL (by omega) h1) z)
  | succ j ih =>
    intro i h1 h2 S hI
    refine m_iload_n dL_law_18 3 rfl rfl ?_
    refine m_aload_n dL_law_19 0 rfl rfl ?_
    refine m_slen hX dL_law_20 ?_
    refine m_iconst (v := 5) dL_law_21 (by decide) ?_
    refine m_isub dL_law_22 ?_
    refine m_icmp_gt (tgt := 877) dL_law_23 (by decide) (fun _ => kend _ S) (fun z => ?_)
    have hlt : i + 5 ≤ L := lw_ngt hL h1 z
    have H1 : vp_in (nI i + 1) L := lw_in hL 1 (by omega)
    have H2 : vp_in (nI i + 2) L := lw_in hL 2 (by omega)
    have H3 : vp_in (nI i + 3) L := lw_in hL 3 (by omega)
    have H4 : vp_in (nI i + 4) L := lw_in hL 4 (by omega)
    refine m_aload_n dL_law_26 0 rfl rfl ?_
    refine m_iload_n dL_law_27 3 rfl rfl ?_
    refine m_sld hX (vin (by omega)) dL_law_28 ?_
    refine m_bipush (v := 31) dL_law_29 (by decide) ?_
    refine m_iand dL_law_31 ?_
    have K : ∀ S2, INV S2 → MW Z e cL_law 4 RL 2000 871 [(0, .ref b), (1, .ref (e.2.2.1 0)), (2, .ref (e.2.2.1 49)), (3, .int (nI i))] [] S2 := fun S2 h2 => by
      refine m_iinc (v := nI (i + 5)) dL_law_871 3 rfl (nI_add i 5) (by decide) rfl ?_
      refine m_goto (tgt := 18) dL_law_874 (by decide) ?_
      refine m_loc [1, 2, 3, 0] rfl ?_
      exact ih (i + 5) hlt (by omega) S2 h2
    obtain ⟨q, hq, e1⟩ := pk_andE (xs (nI i).toNatClampNeg) (m := 31) 5 (by decide)
    rw [e1]
    match q, hq with
    | 0, _ => exact m_tableIn (off := 120) (tgt := 152) dL_law_32 (by decide) (by decide) (by decide) (by decide) (k_type hX H1 H2 H3 H4 hI K)
    | 1, _ => exact m_tableIn (off := 183) (tgt := 215) dL_law_32 (by decide) (by decide) (by decide) (by decide) (k_clear hX H1 H2 H3 H4 hI K)
    | 2, _ => exact m_tableIn (off := 196) (tgt := 228) dL_law_32 (by decide) (by decide) (by decide) (by decide) (k_square hX H1 H2 H3 H4 hI K)
    | 3, _ => exact m_tableIn (off := 209) (tgt := 241) dL_law_32 (by decide) (by decide) (by decide) (by decide) (k_bar hX H1 H2 H3 H4 hI K)
    | 4, _ => exact m_tableIn (off := 232) (tgt := 264) dL_law_32 (by decide) (by decide) (by decide) (by decide) (k_person hX H1 H2 H3 H4 hI K)
    | 5, _ => exact m_tableIn (off := 255) (tgt := 287) dL_law_32 (by decide) (by decide) (by decide) (by decide) (k_rain hX H1 H2 H3 H4 hI K)
    | 6, _ => exact m_tableIn (off := 278) (tgt := 310) dL_law_32 (by decide) (by decide) (by decide) (by decide) (k_paint hX H1 H2 H3 H4 hI K)
    | 7, _ => exact m_tableIn (off := 311) (tgt := 343) dL_law_32 (by decide) (by decide) (by decide) (by decide) (k_holds hX H1 H2 H3 H4 hI K)
    | 8, _ => exact m_tableIn (off := 364) (tgt := 396) dL_law_32 (by decide) (by decide) (by decide) (by decide) (k_undo hX H1 H2 H3 H4 hI K)
    | 9, _ => exact m_tableIn (off := 377) (tgt := 409) dL_law_32 (by decide) (by decide) (by decide) (by decide) (k_held hX H1 H2 H3 H4 hI K)
    | 10, _ => exact m_tableIn (off := 410) (tgt := 442) dL_law_32 (by decide) (by decide) (by decide) (by decide) (k_rust hX H1 H2 H3 H4 hI K)
    | 11, _ => exact m_tableIn (off := 443) (tgt := 475) dL_law_32 (by decide) (by decide) (by decide) (by decide) (k_saw hX H1 H2 H3 H4 hI K)
    | 12, _ => exact m_tableIn (off := 476) (tgt := 508) dL_law_32 (by decide) (by decide) (by decide) (by decide) (k_hide hX H1 H2 H3 H4 hI K)
    | 13, _ => exact m_tableIn (off := 499) (tgt := 531) dL_law_32 (by decide) (by decide) (by decide) (by decide) (k_seen hX H1 H2 H3 H4 hI K)
    | 14, _ => exact m_tableIn (off := 522) (tgt := 554) dL_law_32 (by decide) (by decide) (by decide) (by decide) (k_fits hX H1 H2 H3 H4 hI K)
    | 15, _ => exact m_tableIn (off := 535) (tgt := 567) dL_law_32 (by decide) (by decide) (by decide) (by decide) (k_sure hX H1 H2 H3 H4 hI K)
    | 16, _ => exact m_tableIn (off := 558) (tgt := 590) dL_law_32 (by decide) (by decide) (by decide) (by decide) (k_odds hX H1 H2 H3 H4 hI K)
    | 17, _ => exact m_tableIn (off := 601) (tgt := 633) dL_law_32 (by decide) (by decide) (by decide) (by decide) (k_claim hX H1 H2 H3 H4 hI K)
    | 18, _ => exact m_tableIn (off := 644) (tgt := 676) dL_law_32 (by decide) (by decide) (by decide) (by decide) (k_saves hX H1 H2 H3 H4 hI K)
    | 19, _ => exact m_tableIn (off := 687) (tgt := 719) dL_law_32 (by decide) (by decide) (by decide) (by decide) (k_scrape hX H1 H2 H3 H4 hI K)
    | 20, _ => exact m_tableIn (off := 710) (tgt := 742) dL_law_32 (by decide) (by decide) (by decide) (by decide) (k_swaps hX H1 H2 H3 H4 hI K)
    | 21, _ => exact m_tableIn (off := 723) (tgt := 755) dL_law_32 (by decide) (by decide) (by decide) (by decide) (k_rate hX H1 H2 H3 H4 hI K)
    | 22, _ => exact m_tableIn (off := 756) (tgt := 788) dL_law_32 (by decide) (by decide) (by decide) (by decide) (k_keep hX H1 H2 H3 H4 hI K)
    | 23, _ => exact m_tableIn (off := 779) (tgt := 811) dL_law_32 (by decide) (by decide) (by decide) (by decide) (k_back hX H1 H2 H3 H4 hI K)
    | 24, _ => exact m_tableIn (off := 802) (tgt := 834) dL_law_32 (by decide) (by decide) (by decide) (by decide) (k_count hX H1 H2 H3 H4 hI K)
    | 25, _ => exact m_tableIn (off := 825) (tgt := 857) dL_law_32 (by decide) (by decide) (by decide) (by decide) (k_trace hX H1 H2 H3 H4 hI K)
    | q + 26, hq => exact m_tableOut (tgt := 871) dL_law_32 (Or.inr (by rw [nI_toInt (by omega)]; omega)) (by decide) (K S hI)
