/-! keep, back, count. -/
theorem nI_inj {a b : Nat} (ha : a < 2 ^ 31) (hb : b < 2 ^ 31) (h : nI a = nI b) : a = b := by
  have h2 := congrArg Int32.toInt h
  rw [nI_toInt ha, nI_toInt hb] at h2
  omega
theorem pk_55 {i : Nat} : (55 : Int32) * nI i = nI (55 * i) := by
  rw [show (55 : Int32) = nI 55 from rfl, pk_mul]
theorem NOWv_move {T X Z : Nat → Nat} {c : Int32} {p b f n s ss ss2 : Nat → Int32} {off off2 : Nat} (h : NOWv T X Z c p b f n s ss off) (e : ∀ k, k < 55 → ss2 (off2 + k) = ss (off + k)) : NOWv T X Z c p b f n s ss2 off2 := by
  obtain ⟨x12, ec, hs, he, hv, hz, hz2⟩ := h
  refine ⟨x12, ec, fun i hi => (e i (by omega)).trans (hs i hi), he, hv, fun j hj => ?_, hz2⟩
  obtain ⟨a1, a2, a3⟩ := hz j hj
  refine ⟨a1, ?_, a3⟩
  rw [Nat.add_assoc] at a2 ⊢
  exact (e (49 + j) (by omega)).trans a2
theorem IMGv_move {T : Nat → Nat} {k1 k2 c : Int32} {p b f n s ss ss2 : Nat → Int32} {off off2 : Nat} (h : IMGv T k1 k2 c p b f n s ss off) (e : ∀ k, k < 55 → ss2 (off2 + k) = ss (off + k)) : IMGv T k1 k2 c p b f n s ss2 off2 := by
  rcases h with h | ⟨a, b, X, Z, h⟩
  · exact Or.inl h
  · exact Or.inr ⟨a, b, X, Z, NOWv_move h e⟩
theorem keep_loop {i : Nat} (hi : i < 2) {kx : St → Prop} : ∀ (r j : Nat) (S : St), j + r = 55 → (∀ S2, FR [54] S S2 → (∀ k, S2.1 54 k = if 55 * i + j ≤ k ∧ k < 55 * i + 55 then S.1 53 (k - 55 * i) else S.1 54 k) → kx S2) → X7_keep_L13 (nI i) kx (r + 1) S (nI j)
  | 0, j, S, hj, h => by
    rw [X7_keep_L13]
    refine pk_le 55 j (fun _ => ?_) (fun c => absurd c (by omega)) rfl rfl
    refine h S FR.rf (fun k => ?_)
    rw [if_neg (by omega)]
  | r + 1, j, S, hj, h => by
    rw [X7_keep_L13]
    refine pk_le 55 j (fun c => absurd c (by omega)) (fun _ => ?_) rfl rfl
    rw [pk_55, nI_add]
    refine ⟨vin (by omega), vin (by omega), ?_⟩
    rintro _ rfl _ rfl
    rw [nI_clamp (by omega), nI_clamp (by omega), nI_1]
    refine keep_loop hi r (j + 1) _ (by omega) (fun S2 hF hv => ?_)
    refine h S2 ((FR.set FR.rf (by decide)).tr hF) (fun k => ?_)
    rw [hv k]
    show (if 55 * i + (j + 1) ≤ k ∧ k < 55 * i + 55 then S.1 53 (k - 55 * i) else upd (S.1 54) (55 * i + j) (S.1 53 j) k) = _
    by_cases c : k = 55 * i + j
    · subst c
      rw [if_neg (by omega), pk_us, if_pos (by omega), show 55 * i + j - 55 * i = j by omega]
    · rw [pk_un c]
      by_cases c2 : 55 * i + (j + 1) ≤ k ∧ k < 55 * i + 55
      · rw [if_pos c2, if_pos (by omega)]
      · rw [if_neg c2, if_neg (by omega)]
theorem back_loop {i : Nat} (hi : i < 2) {kx : St → Prop} : ∀ (r j : Nat) (S : St), j + r = 55 → (∀ S2, FR [53] S S2 → (∀ k, S2.1 53 k = if j ≤ k ∧ k < 55 then S.1 54 (55 * i + k) else S.1 53 k) → kx S2) → X7_back_L25 (nI i) kx (r + 1) S (nI j)
  | 0, j, S, hj, h => by
    rw [X7_back_L25]
    refine pk_le 55 j (fun _ => ?_) (fun c => absurd c (by omega)) rfl rfl
    refine h S FR.rf (fun k => ?_)
    rw [if_neg (by omega)]
  | r + 1, j, S, hj, h => by
    rw [X7_back_L25]
    refine pk_le 55 j (fun c => absurd c (by omega)) (fun _ => ?_) rfl rfl
    rw [pk_55, nI_add]
    refine ⟨vin (by omega), vin (by omega), ?_⟩
    rintro _ rfl _ rfl
    rw [nI_clamp (by omega), nI_clamp (by omega), nI_1]
    refine back_loop hi r (j + 1) _ (by omega) (fun S2 hF hv => ?_)
    refine h S2 ((FR.set FR.rf (by decide)).tr hF) (fun k => ?_)
    rw [hv k]
    show (if j + 1 ≤ k ∧ k < 55 then S.1 54 (55 * i + k) else upd (S.1 53) j (S.1 54 (55 * i + j)) k) = _
    by_cases c : k = j
    · subst c
      rw [if_neg (by omega), pk_us, if_pos (by omega)]
    · rw [pk_un c]
      by_cases c2 : j + 1 ≤ k ∧ k < 55
      · rw [if_pos c2, if_pos (by omega)]
      · rw [if_neg c2, if_neg (by omega)]
theorem nar1 : vp_nar .boolean 1 = 1 := by decide
/-- other parts of INV, where only cells of a list changed -/
theorem RAIL.fr {L : List Nat} {S S2 : St} {T : Nat → Nat} (h : RAIL S T) (hF : FR L S S2) (hL : ∀ c, c ∈ [1200, 1201, 1202, 12, 13, 14, 15, 16, 17, 51] → c ∉ L := by decide) : RAIL S2 T := by
  unfold RAIL at h ⊢
  rw [hF.1 1200 (hL _ (by decide)), hF.1 1201 (hL _ (by decide)), hF.1 1202 (hL _ (by decide)), hF.1 12 (hL _ (by decide)), hF.1 13 (hL _ (by decide)), hF.1 14 (hL _ (by decide)), hF.1 15 (hL _ (by decide)), hF.1 16 (hL _ (by decide)), hF.1 17 (hL _ (by decide)), hF.1 51 (hL _ (by decide))]
  exact h
theorem NOW.fr {L : List Nat} {S S2 : St} {T X Z : Nat → Nat} (h : NOW S T X Z) (hF : FR L S S2) (hL : ∀ c, c ∈ [1900, 19, 20, 21, 22, 23, 53] → c ∉ L := by decide) : NOW S2 T X Z := by
  unfold NOW at h ⊢
  rw [hF.1 1900 (hL _ (by decide)), hF.1 19 (hL _ (by decide)), hF.1 20 (hL _ (by decide)), hF.1 21 (hL _ (by decide)), hF.1 22 (hL _ (by decide)), hF.1 23 (hL _ (by decide)), hF.1 53 (hL _ (by decide))]
  exact h
theorem TEXT.fr {L : List Nat} {S S2 : St} {n : Nat} (h : TEXT S n) (hF : FR L S S2) (hL : ∀ c, c ∈ [301, 3, 5002, 50] → c ∉ L := by decide) : TEXT S2 n := by
  unfold TEXT at h ⊢
  rw [hF.1 301 (hL _ (by decide)), hF.1 3 (hL _ (by decide)), hF.1 5002 (hL _ (by decide)), hF.1 50 (hL _ (by decide))]
  exact h
theorem IMG0.fr {L : List Nat} {S S2 : St} {T : Nat → Nat} (h : IMG0 S T) (hF : FR L S S2) (hL : ∀ c, c ∈ [37, 55, 2600, 26, 27, 28, 29, 30, 54] → c ∉ L := by decide) : IMG0 S2 T := by
  unfold IMG0 at h ⊢
  rw [hF.1 37 (hL _ (by decide)), hF.1 55 (hL _ (by decide)), hF.1 2600 (hL _ (by decide)), hF.1 26 (hL _ (by decide)), hF.1 27 (hL _ (by decide)), hF.1 28 (hL _ (by decide)), hF.1 29 (hL _ (by decide)), hF.1 30 (hL _ (by decide)), hF.1 54 (hL _ (by decide))]
  exact h
theorem IMG1.fr {L : List Nat} {S S2 : St} {T : Nat → Nat} (h : IMG1 S T) (hF : FR L S S2) (hL : ∀ c, c ∈ [37, 55, 3200, 32, 33, 34, 35, 36, 54] → c ∉ L := by decide) : IMG1 S2 T := by
  unfold IMG1 at h ⊢
  rw [hF.1 37 (hL _ (by decide)), hF.1 55 (hL _ (by decide)), hF.1 3200 (hL _ (by decide)), hF.1 32 (hL _ (by decide)), hF.1 33 (hL _ (by decide)), hF.1 34 (hL _ (by decide)), hF.1 35 (hL _ (by decide)), hF.1 36 (hL _ (by decide)), hF.1 54 (hL _ (by decide))]
  exact h
theorem ok_keep {S : St} (h : INV S) (x : Int32) : w_X6_keep S x (fun r S1 => w_X7_keep S1 x (fun r2 S2 => r = r2 ∧ INV S2)) := by
  have hI := h
  obtain ⟨T, X, Z, nt, hR, hW, hT, h0, h1, ht⟩ := h
  have z0 : (0 : Int32).toNatClampNeg = 0 := rfl
  unfold w_X6_keep w_X7_keep
  have es : S.1 1900 0 = S.1 53 0 := hW.2.1.trans (hW.2.2.1 0 (by omega)).symm
  rcases rng_cases x 0 1 (by omega) (by omega) with ⟨i, -, hi, rfl⟩ | g
  · refine within_in 0 1 i (by omega) hi (nb_t (by decide) ⟨vin (by omega), ?_, ?_⟩)
    · intro q
      obtain rfl : i = 0 := nI_inj (by omega) (by omega) q
      unfold w_X1_become_k0
      rintro _ rfl _ rfl _ rfl _ rfl _ rfl _ rfl
      refine ⟨vin (by omega), ?_⟩
      rintro _ rfl
      refine in_in 0 1 0 (by omega) hi (nb_t (by decide) ⟨56, keep_loop (by omega) 55 0 _ rfl (fun S2 hF hv => ⟨vin (by omega), ?_⟩)⟩)
      intro S9 hS9
      have hG : FR [2600, 26, 27, 28, 29, 30, 37, 54, 55] S S9 := by
        rw [hS9]
        exact FR.set (FR.tr (FR.set (FR.set (FR.set (FR.set (FR.set (FR.set (FR.set FR.rf (by decide)) (by decide)) (by decide)) (by decide)) (by decide)) (by decide)) (by decide)) (hF.mono (by decide))) (by decide)
      have e2600 : S9.1 2600 0 = S.1 1900 0 := by
        rw [hS9]
        exact congrFun (hF.1 2600 (by decide)) 0
      have e26 : S9.1 26 = S.1 19 := by
        rw [hS9]
        exact hF.1 26 (by decide)
      have e27 : S9.1 27 = S.1 20 := by
        rw [hS9]
        exact hF.1 27 (by decide)
      have e28 : S9.1 28 = S.1 21 := by
        rw [hS9]
        exact hF.1 28 (by decide)
      have e29 : S9.1 29 = S.1 22 := by
        rw [hS9]
        exact hF.1 29 (by decide)
      have e30 : S9.1 30 = S.1 23 := by
        rw [hS9]
        exact hF.1 30 (by decide)
      have e37 : S9.1 37 0 = 1 := by
        rw [hS9]
        exact (congrFun (hF.1 37 (by decide)) 0).trans nar1
      have e55 : S9.1 55 0 = 1 := by
        rw [hS9]
        exact nar1
      have f37 : S9.1 37 1 = S.1 37 1 := by
        rw [hS9]
        exact congrFun (hF.1 37 (by decide)) 1
      have f55 : S9.1 55 1 = S.1 55 1 := by
        rw [hS9]
        exact congrFun (hF.1 55 (by decide)) 1
      have e54 : ∀ k, S9.1 54 k = if 55 * 0 + 0 ≤ k ∧ k < 55 * 0 + 55 then S.1 53 (k - 55 * 0) else S.1 54 k := by
        rw [hS9]
        exact hv
      refine ⟨vin (i := 0) (by omega), ?_, T, X, Z, nt, hR.fr hG, hW.fr hG, hT.fr hG, Or.inr ⟨?_, ?_, X, Z, ?_⟩, ?_, ?_⟩
      · exact es.trans (congrFun (hG.1 53 (by decide)) 0).symm
      · exact e37
      · exact e55
      · rw [e2600, e26, e27, e28, e29, e30]
        refine NOWv_move hW (fun k hk => ?_)
        rw [e54, if_pos (by omega)]
        rfl
      · unfold IMG1
        rw [hG.1 3200 (by decide), hG.1 32 (by decide), hG.1 33 (by decide), hG.1 34 (by decide), hG.1 35 (by decide), hG.1 36 (by decide)]
        rw [f37, f55]
        refine IMGv_move h1 (fun k hk => ?_)
        rw [e54, if_neg (by omega)]
      · rw [hG.2]
        exact ht
    · intro q
      obtain rfl : i = 1 := nI_inj (by omega) (by omega) q
      unfold w_X1_become_k1
      rintro _ rfl _ rfl _ rfl _ rfl _ rfl _ rfl
      refine ⟨vin (by omega), ?_⟩
      rintro _ rfl
      refine in_in 0 1 1 (by omega) hi (nb_t (by decide) ⟨56, keep_loop (by omega) 55 0 _ rfl (fun S2 hF hv => ⟨vin (by omega), ?_⟩)⟩)
      intro S9 hS9
      have hG : FR [3200, 32, 33, 34, 35, 36, 37, 54, 55] S S9 := by
        rw [hS9]
        exact FR.set (FR.tr (FR.set (FR.set (FR.set (FR.set (FR.set (FR.set (FR.set FR.rf (by decide)) (by decide)) (by decide)) (by decide)) (by decide)) (by decide)) (by decide)) (hF.mono (by decide))) (by decide)
      have e3200 : S9.1 3200 0 = S.1 1900 0 := by
        rw [hS9]
        exact congrFun (hF.1 3200 (by decide)) 0
      have e32 : S9.1 32 = S.1 19 := by
        rw [hS9]
        exact hF.1 32 (by decide)
      have e33 : S9.1 33 = S.1 20 := by
        rw [hS9]
        exact hF.1 33 (by decide)
      have e34 : S9.1 34 = S.1 21 := by
        rw [hS9]
        exact hF.1 34 (by decide)
      have e35 : S9.1 35 = S.1 22 := by
        rw [hS9]
        exact hF.1 35 (by decide)
      have e36 : S9.1 36 = S.1 23 := by
        rw [hS9]
        exact hF.1 36 (by decide)
      have e37 : S9.1 37 1 = 1 := by
        rw [hS9]
        exact (congrFun (hF.1 37 (by decide)) 1).trans nar1
      have e55 : S9.1 55 1 = 1 := by
        rw [hS9]
        exact nar1
      have f37 : S9.1 37 0 = S.1 37 0 := by
        rw [hS9]
        exact congrFun (hF.1 37 (by decide)) 0
      have f55 : S9.1 55 0 = S.1 55 0 := by
        rw [hS9]
        exact congrFun (hF.1 55 (by decide)) 0
      have e54 : ∀ k, S9.1 54 k = if 55 * 1 + 0 ≤ k ∧ k < 55 * 1 + 55 then S.1 53 (k - 55 * 1) else S.1 54 k := by
        rw [hS9]
        exact hv
      refine ⟨vin (i := 0) (by omega), ?_, T, X, Z, nt, hR.fr hG, hW.fr hG, hT.fr hG, ?_, Or.inr ⟨?_, ?_, X, Z, ?_⟩, ?_⟩
      · exact es.trans (congrFun (hG.1 53 (by decide)) 0).symm
      · unfold IMG0
        rw [hG.1 2600 (by decide), hG.1 26 (by decide), hG.1 27 (by decide), hG.1 28 (by decide), hG.1 29 (by decide), hG.1 30 (by decide)]
        rw [f37, f55]
        refine IMGv_move h0 (fun k hk => ?_)
        rw [e54, if_neg (by omega)]
      · exact e37
      · exact e55
      · rw [e3200, e32, e33, e34, e35, e36]
        refine NOWv_move hW (fun k hk => ?_)
        rw [e54, if_pos (by omega), show 55 + k - 55 * 1 = 0 + k by omega]
      · rw [hG.2]
        exact ht
  · exact within_out g (nb_f rfl (in_out g (nb_f rfl ⟨rfl, hI⟩)))
theorem ok_back {S : St} (h : INV S) (x : Int32) : w_X6_back S x (fun r S1 => w_X7_back S1 x (fun r2 S2 => r = r2 ∧ INV S2)) := by
  have hI := h
  obtain ⟨T, X, Z, nt, hR, hW, hT, h0, h1, ht⟩ := h
  have z0 : (0 : Int32).toNatClampNeg = 0 := rfl
  unfold w_X6_back w_X7_back
  rcases rng_cases x 0 1 (by omega) (by omega) with ⟨i, -, hi, rfl⟩ | g
  · refine within_in 0 1 i (by omega) hi (nb_t (by decide) ⟨vin (by omega), ?_⟩)
    rw [nI_clamp (by omega)]
    obtain ⟨hc1, hc2⟩ | ⟨hc1, hc2⟩ : (S.1 37 i = 0 ∧ S.1 55 i = 0) ∨ (S.1 37 i = 1 ∧ S.1 55 i = 1) := by
      rcases (by omega : i = 0 ∨ i = 1) with rfl | rfl
      · rcases h0 with h | ⟨a, b, -⟩
        · exact Or.inl h
        · exact Or.inr ⟨a, b⟩
      · rcases h1 with h | ⟨a, b, -⟩
        · exact Or.inl h
        · exact Or.inr ⟨a, b⟩
    · refine nb_f hc1 ?_
      refine in_in 0 1 i (by omega) hi (nb_t (by decide) ⟨vin (by omega), ?_⟩)
      exact nb_f hc2 ⟨rfl, hI⟩
    · refine nb_t (by rw [hc1]; decide) ⟨vin (by omega), ?_, ?_⟩
      · intro q
        obtain rfl : i = 0 := nI_inj (by omega) (by omega) q
        obtain ⟨X2, Z2, hN⟩ : ∃ X2 Z2, NOWv T X2 Z2 (S.1 2600 0) (S.1 26) (S.1 27) (S.1 28) (S.1 29) (S.1 30) (S.1 54) 0 := by
          rcases h0 with ⟨a, -⟩ | ⟨-, -, h⟩
          · rw [a] at hc1
            exact absurd hc1 (by decide)
          · exact h
        unfold w_X1_become_b0
        rintro _ rfl _ rfl _ rfl _ rfl _ rfl _ rfl
        refine in_in 0 1 0 (by omega) hi (nb_t (by decide) ⟨vin (by omega), nb_t ?_ ⟨56, back_loop (by omega) 55 0 _ rfl (fun S2 hF hv => ⟨vin (i := 0) (by omega), ?_⟩)⟩⟩)
        · show ¬ S.1 55 0 = 0
          rw [hc2]
          decide
        have hG : FR [1900, 19, 20, 21, 22, 23, 53] S S2 := FR.tr (FR.set (FR.set (FR.set (FR.set (FR.set (FR.set FR.rf (by decide)) (by decide)) (by decide)) (by decide)) (by decide)) (by decide)) (hF.mono (by decide))
        refine ⟨?_, T, X2, Z2, nt, hR.fr hG, ?_, hT.fr hG, h0.fr hG, h1.fr hG, by rw [hG.2]; exact ht⟩
        · rw [z0, hv, if_pos (by omega)]
          exact hN.2.1.trans (hN.2.2.1 0 (by omega)).symm
        · unfold NOW
          rw [hF.1 1900 (by decide), hF.1 19 (by decide), hF.1 20 (by decide), hF.1 21 (by decide), hF.1 22 (by decide), hF.1 23 (by decide)]
          refine NOWv_move hN (fun k hk => ?_)
          rw [hv, if_pos (by omega)]
          show S.1 54 (55 * 0 + (0 + k)) = S.1 54 (0 + k)
          rw [Nat.mul_zero, Nat.zero_add]
      · intro q
        obtain rfl : i = 1 := nI_inj (by omega) (by omega) q
        obtain ⟨X2, Z2, hN⟩ : ∃ X2 Z2, NOWv T X2 Z2 (S.1 3200 0) (S.1 32) (S.1 33) (S.1 34) (S.1 35) (S.1 36) (S.1 54) 55 := by
          rcases h1 with ⟨a, -⟩ | ⟨-, -, h⟩
          · rw [a] at hc1
            exact absurd hc1 (by decide)
          · exact h
        unfold w_X1_become_b1
        rintro _ rfl _ rfl _ rfl _ rfl _ rfl _ rfl
        refine in_in 0 1 1 (by omega) hi (nb_t (by decide) ⟨vin (by omega), nb_t ?_ ⟨56, back_loop (by omega) 55 0 _ rfl (fun S2 hF hv => ⟨vin (i := 0) (by omega), ?_⟩)⟩⟩)
        · show ¬ S.1 55 1 = 0
          rw [hc2]
          decide
        have hG : FR [1900, 19, 20, 21, 22, 23, 53] S S2 := FR.tr (FR.set (FR.set (FR.set (FR.set (FR.set (FR.set FR.rf (by decide)) (by decide)) (by decide)) (by decide)) (by decide)) (by decide)) (hF.mono (by decide))
        refine ⟨?_, T, X2, Z2, nt, hR.fr hG, ?_, hT.fr hG, h0.fr hG, h1.fr hG, by rw [hG.2]; exact ht⟩
        · rw [z0, hv, if_pos (by omega)]
          exact hN.2.1.trans (hN.2.2.1 0 (by omega)).symm
        · unfold NOW
          rw [hF.1 1900 (by decide), hF.1 19 (by decide), hF.1 20 (by decide), hF.1 21 (by decide), hF.1 22 (by decide), hF.1 23 (by decide)]
          refine NOWv_move hN (fun k hk => ?_)
          rw [hv, if_pos (by omega)]
          show S.1 54 (55 * 1 + (0 + k)) = S.1 54 (55 + k)
          rw [Nat.mul_one, Nat.zero_add]
  · exact within_out g (nb_f rfl (in_out g (nb_f rfl ⟨rfl, hI⟩)))
