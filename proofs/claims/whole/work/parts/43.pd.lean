/-! The whole text read, and what follows. -/
theorem parse_le {u : Nat → Nat} {n : Nat} : ∀ (f p x : Nat) (T : Nat → Nat), p ≤ n → parse u n f T (tok u n p) = .inl x → x ≤ n
  | 0, p, x, T, hp, h => by
    rw [parse] at h
    cases h
  | f + 1, p, x, T, hp, h => by
    have e := tok_ends u n p hp
    have e1 := tok_ends u n _ e.2.2.1
    have e2 := tok_ends u n _ e1.2.2.1
    have e3 := tok_ends u n _ e2.2.2.1
    have e4 := tok_ends u n _ e3.2.2.1
    have st : ∀ (q : Nat) (T' : Nat → Nat) (y : Nat), q ≤ n → stopP u n q T' = .inl y → y ≤ n := by
      intro q T' y hq hy
      have eq := tok_ends u n q hq
      unfold stopP at hy
      split at hy
      · cases hy
      · have := Sum.inl.inj hy
        omega
    rw [parse] at h
    split at h
    · cases h
    · split at h
      · rename_i y hy
        have hx := Sum.inl.inj h
        subst hx
        unfold itemP barP personP rainP rainQ paintP paintQ paintR at hy
        have l1 : (tok u n p).1 ≤ n := by omega
        have l2 : (tok u n (tok u n p).2.2).1 ≤ n := by omega
        have l3 : (tok u n (tok u n (tok u n p).2.2).2.2).1 ≤ n := by omega
        have l4 : (tok u n (tok u n (tok u n (tok u n p).2.2).2.2).2.2).1 ≤ n := by omega
        split at hy
        · split at hy
          · have := Sum.inl.inj hy
            omega
          · split at hy
            · have := Sum.inl.inj hy
              omega
            · exact st _ _ _ e1.2.2.1 hy
        · split at hy
          · split at hy
            · have := Sum.inl.inj hy
              omega
            · split at hy
              · have := Sum.inl.inj hy
                omega
              · exact st _ _ _ e1.2.2.1 hy
          · split at hy
            · split at hy
              · have := Sum.inl.inj hy
                omega
              · split at hy
                · have := Sum.inl.inj hy
                  omega
                · exact st _ _ _ e2.2.2.1 hy
            · split at hy
              · split at hy
                · have := Sum.inl.inj hy
                  omega
                · split at hy
                  · have := Sum.inl.inj hy
                    omega
                  · split at hy
                    · have := Sum.inl.inj hy
                      omega
                    · split at hy
                      · have := Sum.inl.inj hy
                        omega
                      · exact st _ _ _ e3.2.2.1 hy
              · have := Sum.inl.inj hy
                omega
      · rename_i T2 q hq
        obtain ⟨-, q2, -⟩ := itemP_inr e.2.2.1 hq
        exact parse_le f q x (bump T2) q2 h
theorem reads_init {kx : St → Prop} : ∀ (r k : Nat) (S : St), k + r = 47 → (∀ j, j < k → S.1 52 j = nI (T00 j)) → (∀ S2 : St, (∀ j, j < 47 → S2.1 52 j = nI (T00 j)) → FR [52] S S2 → kx S2) → X7_reads_L2 kx (r + 1) S (nI k)
  | 0, k, S, hk, hv, h => by
    rw [X7_reads_L2]
    exact pk_le 47 k (fun _ => h S (fun j hj => hv j (by omega)) FR.rf) (fun c => absurd c (by omega)) rfl rfl
  | r + 1, k, S, hk, hv, h => by
    rw [X7_reads_L2]
    refine pk_le 47 k (fun c => absurd c (by omega)) (fun _ => ?_) rfl rfl
    refine in_nI (lo := 13) (hi := 22) (by omega) (by omega) (by omega) (fun c => br_f (by decide) ⟨vin (by omega), ?_⟩) (fun c => br_t rfl ⟨vin (by omega), ?_⟩)
    · rintro _ rfl _ rfl
      rw [nI_clamp (by omega), nI_1]
      refine reads_init r (k + 1) _ (by omega) (fun j hj => ?_) (fun S2 a b => h S2 a ((FR.set FR.rf (by decide)).tr b))
      show upd (S.1 52) k 1 j = nI (T00 j)
      by_cases cj : j = k
      · subst cj
        rw [pk_us, T00, if_pos c]
        rfl
      · rw [pk_un cj]
        exact hv j (by omega)
    · rintro _ rfl _ rfl
      rw [nI_clamp (by omega), nI_1]
      refine reads_init r (k + 1) _ (by omega) (fun j hj => ?_) (fun S2 a b => h S2 a ((FR.set FR.rf (by decide)).tr b))
      show upd (S.1 52) k 0 j = nI (T00 j)
      by_cases cj : j = k
      · subst cj
        rw [pk_us, T00, if_neg c]
        rfl
      · rw [pk_un cj]
        exact hv j (by omega)
theorem reads_ok {S : St} {n : Nat} {u : Nat → Nat} (hX : TXm S n u) {Q : Int32 → St → Prop} (hl : ∀ x S2, parse u n (n + 1) T00 (tok u n 0) = .inl x → S2.1 5010 0 = nI x → FR MLst S S2 → Q 0 S2) (hr : ∀ T' S2, parse u n (n + 1) T00 (tok u n 0) = .inr T' → DRm S2 T' → FR MLst S S2 → Q 1 S2) : w_X7_reads S Q := by
  unfold w_X7_reads
  refine ⟨48, reads_init 47 0 S (by omega) (fun j hj => absurd hj (Nat.not_lt_zero j)) (fun S9 hv hF => ?_)⟩
  rintro _ rfl
  have hF10 : FR MLst S (setI S9 5008 0) := FR.set (hF.mono (by decide)) (by decide)
  refine token_ok (hX.fr hF10) (Nat.zero_le n) rfl (fun S11 hM hF11 => ?_)
  have hF2 := hF10.tr (hF11.mono ML4_sub)
  have hD : DRm S11 T00 := by
    refine DRm.fr ?_ hF11
    exact ⟨⟨by decide, by decide, by decide⟩, hv⟩
  exact ⟨n + 1, reads_loop n 0 T00 S11 (hX.fr hF2) hD (Nat.zero_le n) (by omega) hM (fun x S2 a b c => hl x S2 a b (hF2.tr c)) (fun T' S2 a b c => hr T' S2 a b (hF2.tr c))⟩
theorem tells_loop {kx : St → Prop} : ∀ (r k : Nat) (S : St), k + r = 47 → (∀ j, j < k → S.1 51 j = S.1 52 j) → (∀ S2 : St, (∀ j, j < 47 → S2.1 51 j = S.1 52 j) → FR [51] S S2 → kx S2) → X7_tells_L2 kx (r + 1) S (nI k)
  | 0, k, S, hk, hv, h => by
    rw [X7_tells_L2]
    exact pk_le 47 k (fun _ => h S (fun j hj => hv j (by omega)) FR.rf) (fun c => absurd c (by omega)) rfl rfl
  | r + 1, k, S, hk, hv, h => by
    rw [X7_tells_L2]
    refine pk_le 47 k (fun c => absurd c (by omega)) (fun _ => ⟨vin (by omega), vin (by omega), ?_⟩) rfl rfl
    rintro _ rfl _ rfl
    rw [nI_clamp (by omega), nI_1]
    refine tells_loop r (k + 1) _ (by omega) (fun j hj => ?_) (fun S2 a b => h S2 a ((FR.set FR.rf (by decide)).tr b))
    show upd (S.1 51) k (S.1 52 k) j = S.1 52 j
    by_cases cj : j = k
    · subst cj
      rw [pk_us]
    · rw [pk_un cj]
      exact hv j (by omega)
theorem tells_loop2 {kx : St → Prop} : ∀ (r k : Nat) (S : St), k + r = 6 → (∀ j, j < k → S.1 53 (49 + j) = -9) → (∀ S2 : St, (∀ j, j < 6 → S2.1 53 (49 + j) = -9) → (∀ i, i < 49 → S2.1 53 i = S.1 53 i) → FR [53] S S2 → kx S2) → X7_tells_L35 kx (r + 1) S (nI k)
  | 0, k, S, hk, hv, h => by
    rw [X7_tells_L35]
    exact pk_le 6 k (fun _ => h S (fun j hj => hv j (by omega)) (fun i hi => rfl) FR.rf) (fun c => absurd c (by omega)) rfl rfl
  | r + 1, k, S, hk, hv, h => by
    rw [X7_tells_L35]
    refine pk_le 6 k (fun c => absurd c (by omega)) (fun _ => ?_) rfl rfl
    rw [show (49 : Int32) = nI 49 from rfl, nI_add]
    refine ⟨vin (by omega), ?_⟩
    rintro _ rfl _ rfl
    rw [nI_clamp (by omega), nI_1]
    refine tells_loop2 r (k + 1) _ (by omega) (fun j hj => ?_) (fun S2 a a2 b => h S2 a (fun i hi => ?_) ((FR.set FR.rf (by decide)).tr b))
    · show upd (S.1 53) (49 + k) (-9) (49 + j) = -9
      by_cases cj : j = k
      · subst cj
        rw [pk_us]
      · rw [pk_un (by omega)]
        exact hv j (by omega)
    · rw [a2 i hi]
      exact pk_un (by omega)
theorem nar0 : vp_nar .boolean 0 = 0 := by decide
theorem tells_ok {S : St} {Q : St → Prop} (h : ∀ S2 : St, (∀ j, j < 47 → S2.1 51 j = S.1 52 j) → S2.1 53 0 = 0 → (∀ j, j < 6 → S2.1 53 (49 + j) = -9) → (∀ i, 1 ≤ i → i < 49 → S2.1 53 i = S.1 53 i) → S2.1 55 0 = 0 → S2.1 55 1 = 0 → FR [51, 53, 55] S S2 → Q S2) : w_X7_tells S Q := by
  unfold w_X7_tells
  refine ⟨48, tells_loop 47 0 S (by omega) (fun j hj => absurd hj (Nat.not_lt_zero j)) (fun S6 hv hF => ⟨vin (i := 0) (by omega), ?_⟩)⟩
  rintro _ rfl
  refine ⟨7, tells_loop2 6 0 _ (by omega) (fun j hj => absurd hj (Nat.not_lt_zero j)) (fun S13 h1 h2 hF2 => ⟨vin (i := 0) (by omega), ?_⟩)⟩
  rintro _ rfl
  refine ⟨vin (i := 1) (by omega), ?_⟩
  rintro _ rfl
  have d51 : S13.1 51 = S6.1 51 := hF2.1 51 (by decide)
  have d53 : S6.1 53 = S.1 53 := hF.1 53 (by decide)
  refine h _ (fun j hj => ?_) ?_ (fun j hj => h1 j hj) (fun i hi hi2 => ?_) ?_ ?_ (FR.set (FR.set ((FR.set (hF.mono (by decide)) (by decide)).tr (hF2.mono (by decide))) (by decide)) (by decide))
  · show S13.1 51 j = S.1 52 j
    rw [d51]
    exact hv j hj
  · show S13.1 53 0 = 0
    rw [h2 0 (by omega)]
    rfl
  · show S13.1 53 i = S.1 53 i
    rw [h2 i hi2]
    show upd (S6.1 53) 0 0 i = S.1 53 i
    rw [pk_un (by omega), d53]
  · show upd (upd (S13.1 55) 0 (vp_nar .boolean 0)) 1 (vp_nar .boolean 0) 0 = 0
    rw [pk_un (by omega), pk_us, nar0]
  · show upd (upd (S13.1 55) 0 (vp_nar .boolean 0)) 1 (vp_nar .boolean 0) 1 = 0
    rw [pk_us, nar0]
theorem kept_loop {x : Int32} {kx : St → Prop} {S : St} (h : ∀ S2 : St, S2.1 37 0 = 0 → S2.1 37 1 = 0 → FR [37] S S2 → kx S2) : X6_square_L45 x kx 3 S 0 := by
  rw [X6_square_L45]
  refine pk_le 2 0 (fun c => absurd c (by omega)) (fun _ => ⟨vin (i := 0) (by omega), ?_⟩) rfl rfl
  rintro _ rfl _ rfl
  rw [X6_square_L45]
  refine pk_le 2 1 (fun c => absurd c (by omega)) (fun _ => ⟨vin (i := 1) (by omega), ?_⟩) rfl rfl
  rintro _ rfl _ rfl
  rw [X6_square_L45]
  refine pk_le 2 2 (fun _ => ?_) (fun c => absurd c (by omega)) rfl rfl
  refine h _ ?_ ?_ (FR.set (FR.set FR.rf (by decide)) (by decide))
  · show upd (upd (S.1 37) 0 (vp_nar .boolean 0)) 1 (vp_nar .boolean 0) 0 = 0
    rw [pk_un (by omega), pk_us, nar0]
  · show upd (upd (S.1 37) 0 (vp_nar .boolean 0)) 1 (vp_nar .boolean 0) 1 = 0
    rw [pk_us, nar0]
/-- INV anew: told is T, no holds, nothing seen, no images -/
theorem fresh_INV {S : St} {T X : Nat → Nat} (hR : RAIL S T) (c0 : S.1 1900 0 = 0) (cs : ∀ j, j < 6 → S.1 23 j = -9) (m0 : S.1 53 0 = 0) (ms : ∀ j, j < 6 → S.1 53 (49 + j) = -9) (mi : ∀ i, 1 ≤ i → i < 49 → S.1 53 i = nI (X i)) (he : ∀ k, k < 12 → S.1 19 k = nI (X (1 + k)) ∧ S.1 20 k = nI (X (13 + k)) ∧ S.1 21 k = nI (X (25 + k)) ∧ S.1 22 k = nI (X (37 + k))) (t0 : S.1 301 0 = 0) (t1 : S.1 5002 0 = 0) (k0 : S.1 37 0 = 0 ∧ S.1 37 1 = 0) (k1 : S.1 55 0 = 0 ∧ S.1 55 1 = 0) (ht : S.2 0 = S.2 1) : INV S := by
  refine ⟨T, fun i => if i = 0 then 0 else X i, fun _ => 0, 0, hR, ⟨Nat.zero_le _, c0, fun i hi => ?_, fun k hk => ?_, fun k hk => absurd hk (Nat.not_lt_zero k), fun j hj => ⟨?_, ?_, Nat.zero_le _⟩, fun _ _ _ => rfl⟩, ⟨Nat.zero_le _, t0, t1, fun j hj => absurd hj (Nat.not_lt_zero j)⟩, Or.inl ⟨k0.1, k1.1⟩, Or.inl ⟨k0.2, k1.2⟩, ht⟩
  · show S.1 53 (0 + i) = nI (if i = 0 then 0 else X i)
    rw [Nat.zero_add]
    by_cases c : i = 0
    · rw [if_pos c, c, m0]
      rfl
    · rw [if_neg c]
      exact mi i (by omega) hi
  · show S.1 19 k = nI (if 1 + k = 0 then 0 else X (1 + k)) ∧ S.1 20 k = nI (if 13 + k = 0 then 0 else X (13 + k)) ∧ S.1 21 k = nI (if 25 + k = 0 then 0 else X (25 + k)) ∧ S.1 22 k = nI (if 37 + k = 0 then 0 else X (37 + k))
    rw [if_neg (by omega), if_neg (by omega), if_neg (by omega), if_neg (by omega)]
    exact he k hk
  · rw [cs j hj]
    rfl
  · rw [Nat.zero_add, ms j hj]
    rfl
def AL1 : List Nat := [202, 203, 204, 205, 500, 501, 502, 5, 6, 7, 8, 9, 10, 5008, 5009, 5010, 5011, 52]
theorem RAILv_told {c0 c1 c2 : Int32} {m g r pb py pl told told2 : Nat → Int32} {T : Nat → Nat} (h : RAILv c0 c1 c2 m g r pb py pl told T) (h2 : ∀ j, j < 47 → told2 j = nI (T j)) : RAILv c0 c1 c2 m g r pb py pl told2 T := ⟨h.1, h.2.1, h2, h.2.2.2⟩
theorem neg10 : ∀ x, x < 301 → ¬ (0 : Int32) ≤ -10 - nI x := by decide +kernel
def AL2 : List Nat := [202, 203, 204, 205, 500, 501, 502, 5, 6, 7, 8, 9, 10, 5008, 5009, 5010, 5011, 52, 1200, 1201, 1202, 12, 13, 14, 15, 16, 17, 301, 1900, 23, 37, 51, 53, 55, 5002]
theorem ok_square {S : St} (h : INV S) : w_X6_square S (fun r S1 => w_X7_square S1 (fun r2 S2 => r = r2 ∧ INV S2)) := by
  obtain ⟨T, X, Z, nt, hR, hW, hT, h0, h1, ht⟩ := h
  obtain ⟨u, hX⟩ := TX_of hT
  have n3 := hX.1
  unfold w_X6_square
  refine read_ok hX (fun x S2 hx hF => ?_) (fun T' S2 hx h300 hRD hF => ?_)
  · have hxn := parse_le (nt + 1) 0 x T00 (Nat.zero_le nt) hx
    refine br_f (neg10 x (by omega)) ?_
    unfold w_X7_square
    refine reads_ok (hX.m.fr hF) (fun x2 S3 hx2 e5 hF3 => nb_f rfl ?_) (fun T2 S3 hx2 => ?_)
    · rw [hx] at hx2
      have ex := Sum.inl.inj hx2
      have hG : FR AL1 S S3 := (hF.mono (by decide)).tr (hF3.mono (by decide))
      exact ⟨by rw [e5, ex], T, X, Z, nt, hR.fr hG, hW.fr hG, hT.fr hG, h0.fr hG, h1.fr hG, by rw [hG.2]; exact ht⟩
    · rw [hx] at hx2
      cases hx2
  · refine br_t (ge0_nI _ (by omega)) ?_
    unfold w_X2_become w_X1_forget
    rintro _ rfl _ rfl _ rfl _ rfl _ rfl _ rfl _ rfl _ rfl _ rfl _ rfl _ rfl _ rfl
    refine ⟨3, kept_loop (fun S6 k0 k1 hF6 => ?_)⟩
    have hF26 : FR AL2 S2 S6 := (FR.set (FR.set (FR.set (FR.set (FR.set (FR.set (FR.set (FR.set (FR.set (FR.set (FR.set (FR.set FR.rf (by decide)) (by decide)) (by decide)) (by decide)) (by decide)) (by decide)) (by decide)) (by decide)) (by decide)) (by decide)) (by decide)) (by decide)).tr (hF6.mono (by decide))
    have b0 : S6.1 1200 0 = S2.1 500 0 := congrFun (hF6.1 1200 (by decide)) 0
    have b1 : S6.1 1201 0 = S2.1 501 0 := congrFun (hF6.1 1201 (by decide)) 0
    have b2 : S6.1 1202 0 = S2.1 502 0 := congrFun (hF6.1 1202 (by decide)) 0
    have b12 : S6.1 12 = S2.1 5 := hF6.1 12 (by decide)
    have b13 : S6.1 13 = S2.1 6 := hF6.1 13 (by decide)
    have b14 : S6.1 14 = S2.1 7 := hF6.1 14 (by decide)
    have b15 : S6.1 15 = S2.1 8 := hF6.1 15 (by decide)
    have b16 : S6.1 16 = S2.1 9 := hF6.1 16 (by decide)
    have b17 : S6.1 17 = S2.1 10 := hF6.1 17 (by decide)
    have bl : S6.1 301 0 = 0 := congrFun (hF6.1 301 (by decide)) 0
    have bn : S6.1 1900 0 = 0 := congrFun (hF6.1 1900 (by decide)) 0
    have bs : ∀ j, S6.1 23 j = -9 := fun j => congrFun (hF6.1 23 (by decide)) j
    have c19 : ∀ c, c ∈ [19, 20, 21, 22, 53, 50] → S6.1 c = S2.1 c := fun c hc => by
      rcases List.mem_cons.mp hc with rfl | hc
      · exact hF6.1 19 (by decide)
      rcases List.mem_cons.mp hc with rfl | hc
      · exact hF6.1 20 (by decide)
      rcases List.mem_cons.mp hc with rfl | hc
      · exact hF6.1 21 (by decide)
      rcases List.mem_cons.mp hc with rfl | hc
      · exact hF6.1 22 (by decide)
      rcases List.mem_cons.mp hc with rfl | hc
      · exact hF6.1 53 (by decide)
      rcases List.mem_cons.mp hc with rfl | hc
      · exact hF6.1 50 (by decide)
      cases hc
    have b5002 : S6.1 5002 = S2.1 5002 := hF6.1 5002 (by decide)
    have hXm : TXm S6 nt u := by
      have := hX.m.fr hF
      unfold TXm at this ⊢
      rw [b5002, c19 50 (by decide)]
      exact this
    unfold w_X7_square
    refine reads_ok hXm (fun x2 S7 hx2 => ?_) (fun T2 S7 hx2 hD hF7 => nb_t (by decide) (tells_ok (fun S8 a1 a2 a3 a4 a5 a6 hF8 => ?_)))
    · rw [hx] at hx2
      cases hx2
    · rw [hx] at hx2
      have eT := Sum.inr.inj hx2
      subst eT
      rintro _ rfl
      have hF68 : FR AL2 S6 S8 := (hF7.mono (by decide)).tr (hF8.mono (by decide))
      have hF9 : FR [52, 5008, 5009, 5010, 5011, 51, 53, 55, 5002] S6 (setI S8 5002 0) := FR.set ((hF7.mono (by decide)).tr (hF8.mono (by decide))) (by decide)
      have told : ∀ j, j < 47 → S8.1 51 j = nI (T' j) := fun j hj => (a1 j hj).trans (hD.2 j hj)
      refine ⟨vin (i := 3) (by omega), (told 3 (by omega)).symm, ?_⟩
      have hS2 : FR AL2 S S6 := (hF.mono (by decide)).tr hF26
      refine fresh_INV (T := T') (X := X) ?_ ?_ (fun j hj => ?_) a2 a3 (fun i hi hi2 => ?_) (fun k hk => ?_) ?_ rfl ⟨?_, ?_⟩ ⟨a5, a6⟩ ?_
      · unfold RAIL
        rw [hF9.1 1200 (by decide), hF9.1 1201 (by decide), hF9.1 1202 (by decide), hF9.1 12 (by decide), hF9.1 13 (by decide), hF9.1 14 (by decide), hF9.1 15 (by decide), hF9.1 16 (by decide), hF9.1 17 (by decide), b0, b1, b2, b12, b13, b14, b15, b16, b17]
        exact RAILv_told hRD told
      · rw [hF9.1 1900 (by decide)]
        exact bn
      · rw [hF9.1 23 (by decide)]
        exact bs j
      · show S8.1 53 i = nI (X i)
        rw [a4 i hi hi2, hF7.1 53 (by decide), c19 53 (by decide), hF.1 53 (by decide)]
        have := hW.2.2.1 i hi2
        rwa [Nat.zero_add] at this
      · rw [hF9.1 19 (by decide), hF9.1 20 (by decide), hF9.1 21 (by decide), hF9.1 22 (by decide), c19 19 (by decide), c19 20 (by decide), c19 21 (by decide), c19 22 (by decide), hF.1 19 (by decide), hF.1 20 (by decide), hF.1 21 (by decide), hF.1 22 (by decide)]
        exact hW.2.2.2.1 k hk
      · rw [hF9.1 301 (by decide)]
        exact bl
      · rw [hF9.1 37 (by decide)]
        exact k0
      · rw [hF9.1 37 (by decide)]
        exact k1
      · rw [hF9.2, hS2.2]
        exact ht
/-- the two objects as they begin: what the class's side is, and the model's -/
def INI (S : St) : Prop := (S.1 1200 0 = 0 ∧ S.1 1201 0 = 0 ∧ S.1 1202 0 = 0) ∧ (∀ j, j < 10 → S.1 14 j = 1) ∧ S.1 1900 0 = 0 ∧ (∀ j, j < 6 → S.1 23 j = -9) ∧ (∀ k, k < 12 → S.1 19 k = 0 ∧ S.1 20 k = 0 ∧ S.1 21 k = 0 ∧ S.1 22 k = 0) ∧ S.1 301 0 = 0 ∧ S.1 5002 0 = 0 ∧ (S.1 37 0 = 0 ∧ S.1 37 1 = 0) ∧ (∀ i, i < 49 → S.1 53 i = 0) ∧ S.2 0 = S.2 1
theorem ok_init {S : St} (h : INI S) : w_X7_reads S (fun _ S2 => w_X7_tells S2 (fun S3 => INV S3)) := by
  obtain ⟨⟨e0, e1, e2⟩, e14, e1900, e23, e19, e301, e5002, e37, e53, ht⟩ := h
  have hX : TXm S 0 (fun _ => 0) := ⟨Nat.zero_le _, e5002, fun j hj => absurd hj (Nat.not_lt_zero j)⟩
  have hp : parse (fun _ => 0) 0 (0 + 1) T00 (tok (fun _ => 0) 0 0) = .inr T00 := by
    rw [parse, if_pos (tok_n _ 0)]
  refine reads_ok hX (fun x S2 hx => ?_) (fun T' S2 hx hD hF => tells_ok (fun S3 a1 a2 a3 a4 a5 a6 hF3 => ?_))
  · rw [hp] at hx
    cases hx
  · rw [hp] at hx
    have eT := Sum.inr.inj hx
    subst eT
    have hG : FR [5008, 5009, 5010, 5011, 52, 51, 53, 55] S S3 := (hF.mono (by decide)).tr (hF3.mono (by decide))
    refine fresh_INV (T := T00) (X := fun _ => 0) ?_ ?_ (fun j hj => ?_) a2 a3 (fun i hi hi2 => ?_) (fun k hk => ?_) ?_ ?_ ⟨?_, ?_⟩ ⟨a5, a6⟩ ?_
    · unfold RAIL
      rw [hG.1 1200 (by decide), hG.1 1201 (by decide), hG.1 1202 (by decide), hG.1 12 (by decide), hG.1 13 (by decide), hG.1 14 (by decide), hG.1 15 (by decide), hG.1 16 (by decide), hG.1 17 (by decide)]
      refine ⟨⟨by decide, by decide, by decide⟩, ⟨e0, e1, e2⟩, fun j hj => (a1 j hj).trans (hD.2 j hj), fun j hj => absurd hj (Nat.not_lt_zero j), fun j hj => absurd hj (Nat.not_lt_zero j), fun j hj => ?_, fun k hk => absurd hk (Nat.not_lt_zero k)⟩
      have e : T00 (13 + j) = 1 := by unfold T00; rw [if_pos (by omega)]
      rw [e]
      exact ⟨e14 j hj, by omega⟩
    · rw [hG.1 1900 (by decide)]
      exact e1900
    · rw [hG.1 23 (by decide)]
      exact e23 j hj
    · rw [a4 i hi hi2, hF.1 53 (by decide)]
      exact e53 i hi2
    · rw [hG.1 19 (by decide), hG.1 20 (by decide), hG.1 21 (by decide), hG.1 22 (by decide)]
      exact e19 k hk
    · rw [hG.1 301 (by decide)]
      exact e301
    · rw [hG.1 5002 (by decide)]
      exact e5002
    · rw [hG.1 37 (by decide)]
      exact e37.1
    · rw [hG.1 37 (by decide)]
      exact e37.2
    · rw [hG.2]
      exact ht
