/-! type. -/
def cb (v : Int64) (i : Nat) : Int32 := vp_nar .byte ((((v.toUInt64 >>> ((8 * nI i).toInt64.toUInt64 &&& Int64.toUInt64 63)).toInt64).toInt32).toInt8.toInt32)
def mb (v : Int64) (i : Nat) : Int32 := ((v >>> ((8 * nI i).toInt64 &&& 63)) &&& (255 : Int64)).toInt32
theorem t_a (x : Int8) : x.toInt32.toInt8 = x := by simp
theorem t_b (x : Int8) : vp_nar .byte x.toInt32 = x.toInt32 := by
  show x.toInt32.toInt8.toInt32 = _
  rw [t_a]
theorem and255 (x : BitVec 32) : x &&& 255#32 = (x.setWidth 8).setWidth 32 := by
  apply BitVec.eq_of_toNat_eq
  have h : x.toNat &&& 255 = x.toNat % 256 := Nat.and_two_pow_sub_one_eq_mod x.toNat 8
  simp [h]
  omega
theorem bv1 (A : BitVec 64) (k : Nat) (hk : k ≤ 56) : (BitVec.signExtend 32 (A.sshiftRight k)).setWidth 8 = BitVec.signExtend 8 (A >>> k) := by
  apply BitVec.eq_of_getLsbD_eq
  intro j hj
  have h1 : j < 64 := by omega
  have h2 : j < 32 := by omega
  have h3 : k + j < 64 := by omega
  rw [BitVec.getLsbD_setWidth, BitVec.getLsbD_signExtend, BitVec.getLsbD_sshiftRight, BitVec.getLsbD_signExtend, BitVec.getLsbD_ushiftRight, if_pos h1, if_pos h3, if_pos h1]
  simp [hj, h2]
  omega
theorem byte_u (v : Int64) (k : Nat) (hk : k ≤ 56) {x y : Int32} (hx : x.toBitVec = BitVec.signExtend 32 (v.toBitVec.sshiftRight k) &&& 255#32) (z : Int8) (hz : z.toBitVec = BitVec.signExtend 8 (v.toBitVec >>> k)) (hy : y = z.toInt32) : ∃ u : Nat, u < 256 ∧ x = nI u ∧ y = (nI u).toInt8.toInt32 := by
  refine ⟨z.toBitVec.toNat, z.toBitVec.isLt, ?_, ?_⟩
  · apply Int32.toBitVec_inj.mp
    rw [hx, and255, bv1 _ _ hk, ← hz]
    apply BitVec.eq_of_toNat_eq
    show (BitVec.setWidth 32 z.toBitVec).toNat = (BitVec.ofInt 32 (z.toBitVec.toNat : Int)).toNat
    simp
  · rw [hy]
    congr 1
    apply Int8.toBitVec_inj.mp
    show z.toBitVec = BitVec.signExtend 8 (BitVec.ofInt 32 (z.toBitVec.toNat : Int))
    rw [BitVec.ofInt_natCast, BitVec.signExtend_eq_setWidth_of_le _ (by omega)]
    apply BitVec.eq_of_toNat_eq
    have := z.toBitVec.isLt
    simp
theorem mb_cb (v : Int64) (i : Nat) (hi : i < 8) : ∃ u : Nat, u < 256 ∧ mb v i = nI u ∧ cb v i = (nI u).toInt8.toInt32 := by
  rcases (by omega : i = 0 ∨ i = 1 ∨ i = 2 ∨ i = 3 ∨ i = 4 ∨ i = 5 ∨ i = 6 ∨ i = 7) with rfl | rfl | rfl | rfl | rfl | rfl | rfl | rfl
  · refine byte_u v 0 (by omega) (x := mb v 0) (y := cb v 0) ?_ ((((v.toUInt64 >>> ((8 * nI 0).toInt64.toUInt64 &&& Int64.toUInt64 63)).toInt64).toInt32).toInt8) ?_ (t_b _)
    · have e : ((8 * nI 0).toInt64 &&& 63) = 0 := by decide
      rw [mb, e]
      simp
    · have e : ((8 * nI 0).toInt64.toUInt64 &&& Int64.toUInt64 63) = 0 := by decide
      rw [e]
      simp
  · refine byte_u v 8 (by omega) (x := mb v 1) (y := cb v 1) ?_ ((((v.toUInt64 >>> ((8 * nI 1).toInt64.toUInt64 &&& Int64.toUInt64 63)).toInt64).toInt32).toInt8) ?_ (t_b _)
    · have e : ((8 * nI 1).toInt64 &&& 63) = 8 := by decide
      rw [mb, e]
      simp
    · have e : ((8 * nI 1).toInt64.toUInt64 &&& Int64.toUInt64 63) = 8 := by decide
      rw [e]
      simp
  · refine byte_u v 16 (by omega) (x := mb v 2) (y := cb v 2) ?_ ((((v.toUInt64 >>> ((8 * nI 2).toInt64.toUInt64 &&& Int64.toUInt64 63)).toInt64).toInt32).toInt8) ?_ (t_b _)
    · have e : ((8 * nI 2).toInt64 &&& 63) = 16 := by decide
      rw [mb, e]
      simp
    · have e : ((8 * nI 2).toInt64.toUInt64 &&& Int64.toUInt64 63) = 16 := by decide
      rw [e]
      simp
  · refine byte_u v 24 (by omega) (x := mb v 3) (y := cb v 3) ?_ ((((v.toUInt64 >>> ((8 * nI 3).toInt64.toUInt64 &&& Int64.toUInt64 63)).toInt64).toInt32).toInt8) ?_ (t_b _)
    · have e : ((8 * nI 3).toInt64 &&& 63) = 24 := by decide
      rw [mb, e]
      simp
    · have e : ((8 * nI 3).toInt64.toUInt64 &&& Int64.toUInt64 63) = 24 := by decide
      rw [e]
      simp
  · refine byte_u v 32 (by omega) (x := mb v 4) (y := cb v 4) ?_ ((((v.toUInt64 >>> ((8 * nI 4).toInt64.toUInt64 &&& Int64.toUInt64 63)).toInt64).toInt32).toInt8) ?_ (t_b _)
    · have e : ((8 * nI 4).toInt64 &&& 63) = 32 := by decide
      rw [mb, e]
      simp
    · have e : ((8 * nI 4).toInt64.toUInt64 &&& Int64.toUInt64 63) = 32 := by decide
      rw [e]
      simp
  · refine byte_u v 40 (by omega) (x := mb v 5) (y := cb v 5) ?_ ((((v.toUInt64 >>> ((8 * nI 5).toInt64.toUInt64 &&& Int64.toUInt64 63)).toInt64).toInt32).toInt8) ?_ (t_b _)
    · have e : ((8 * nI 5).toInt64 &&& 63) = 40 := by decide
      rw [mb, e]
      simp
    · have e : ((8 * nI 5).toInt64.toUInt64 &&& Int64.toUInt64 63) = 40 := by decide
      rw [e]
      simp
  · refine byte_u v 48 (by omega) (x := mb v 6) (y := cb v 6) ?_ ((((v.toUInt64 >>> ((8 * nI 6).toInt64.toUInt64 &&& Int64.toUInt64 63)).toInt64).toInt32).toInt8) ?_ (t_b _)
    · have e : ((8 * nI 6).toInt64 &&& 63) = 48 := by decide
      rw [mb, e]
      simp
    · have e : ((8 * nI 6).toInt64.toUInt64 &&& Int64.toUInt64 63) = 48 := by decide
      rw [e]
      simp
  · refine byte_u v 56 (by omega) (x := mb v 7) (y := cb v 7) ?_ ((((v.toUInt64 >>> ((8 * nI 7).toInt64.toUInt64 &&& Int64.toUInt64 63)).toInt64).toInt32).toInt8) ?_ (t_b _)
    · have e : ((8 * nI 7).toInt64 &&& 63) = 56 := by decide
      rw [mb, e]
      simp
    · have e : ((8 * nI 7).toInt64.toUInt64 &&& Int64.toUInt64 63) = 56 := by decide
      rw [e]
      simp
theorem append_loop (v : Int64) {kx : St → Prop} : ∀ (r L : Nat) (S : St), S.1 301 0 = nI L → L + r ≤ 300 → r ≤ 8 → (∀ S2, FR [301, 3] S S2 → S2.1 301 0 = nI (L + r) → (∀ k, k < L → S2.1 3 k = S.1 3 k) → (∀ q, q < r → S2.1 3 (L + q) = cb v (r - 1 - q)) → kx S2) → X4_append_L5 v kx (r + 1) S (nI r - 1)
  | 0, L, S, e, hL, hr, h => by
    rw [X4_append_L5]
    refine br_t (by decide) ?_
    exact h S FR.rf e (fun k _ => rfl) (fun q hq => absurd hq (Nat.not_lt_zero q))
  | r + 1, L, S, e, hL, hr, h => by
    rw [X4_append_L5, nI_m1 _ (by omega), Nat.add_sub_cancel]
    refine pk_lt r 0 (fun c => absurd c (by omega)) (fun _ => pk_le 300 L (fun c => absurd c (by omega)) (fun _ => ⟨vin' L (by omega) e, ?_⟩) rfl e) rfl rfl
    rintro _ rfl _ rfl _ rfl
    have m1 : nI r + -1 = nI r - 1 := by rw [Int32.sub_eq_add_neg]
    rw [m1, e, nI_clamp (by omega)]
    refine append_loop v r (L + 1) _ ?_ (by omega) (by omega) (fun S2 hF h1 h2 h3 => ?_)
    · show S.1 301 0 + 1 = nI (L + 1)
      rw [e, nI_1]
    · refine h S2 ((FR.set (FR.set FR.rf (by decide)) (by decide)).tr hF) (by rw [h1]; congr 1; omega) (fun k hk => ?_) (fun q hq => ?_)
      · rw [h2 k (by omega)]
        exact pk_un (by omega)
      · by_cases c : q = 0
        · subst c
          rw [Nat.add_zero, h2 L (by omega)]
          show upd (S.1 3) L _ L = _
          rw [pk_us]
          rfl
        · have h3' := h3 (q - 1) (by omega)
          rw [show L + 1 + (q - 1) = L + q by omega, show r - 1 - (q - 1) = r + 1 - 1 - q by omega] at h3'
          exact h3'
theorem type_loop (v : Int64) {kx : St → Prop} : ∀ (r L : Nat) (S : St), S.1 5002 0 = nI L → L + r ≤ 300 → r ≤ 8 → (∀ S2, FR [5002, 50] S S2 → S2.1 5002 0 = nI (L + r) → (∀ k, k < L → S2.1 50 k = S.1 50 k) → (∀ q, q < r → S2.1 50 (L + q) = mb v (r - 1 - q)) → kx S2) → X7_type_L32 v kx (r + 1) S (nI r - 1)
  | 0, L, S, e, hL, hr, h => by
    rw [X7_type_L32]
    refine br_t (by decide) ?_
    exact h S FR.rf e (fun k _ => rfl) (fun q hq => absurd hq (Nat.not_lt_zero q))
  | r + 1, L, S, e, hL, hr, h => by
    rw [X7_type_L32, nI_m1 _ (by omega), Nat.add_sub_cancel]
    refine pk_lt r 0 (fun c => absurd c (by omega)) (fun _ => ⟨vin' L (by omega) e, ?_⟩) rfl rfl
    rintro _ rfl _ rfl _ rfl
    have m1 : nI r + -1 = nI r - 1 := by rw [Int32.sub_eq_add_neg]
    rw [m1, e, nI_clamp (by omega)]
    refine type_loop v r (L + 1) _ ?_ (by omega) (by omega) (fun S2 hF h1 h2 h3 => ?_)
    · show S.1 5002 0 + 1 = nI (L + 1)
      rw [e, nI_1]
    · refine h S2 ((FR.set (FR.set FR.rf (by decide)) (by decide)).tr hF) (by rw [h1]; congr 1; omega) (fun k hk => ?_) (fun q hq => ?_)
      · rw [h2 k (by omega)]
        exact pk_un (by omega)
      · by_cases c : q = 0
        · subst c
          rw [Nat.add_zero, h2 L (by omega)]
          show upd (S.1 50) L _ L = _
          rw [pk_us]
          rfl
        · have h3' := h3 (q - 1) (by omega)
          rw [show L + 1 + (q - 1) = L + q by omega, show r - 1 - (q - 1) = r + 1 - 1 - q by omega] at h3'
          exact h3'
theorem ok_type {S : St} (h : INV S) (v : Int64) (x : Int32) : w_X6_type S v x (fun r S1 => w_X7_type S1 v x (fun r2 S2 => r = r2 ∧ INV S2)) := by
  have hI := h
  obtain ⟨T, X, Z, nt, hR, hW, hT, h0, h1, ht⟩ := h
  obtain ⟨n3, ec, em, hb⟩ := hT
  unfold w_X6_type
  rcases rng_cases x 1 8 (by omega) (by omega) with ⟨i, hi1, hi, rfl⟩ | g
  · refine within_in 1 8 i hi1 hi (nb_t (by decide) ?_)
    rw [ec, nI_add]
    refine pk_le (nt + i) 300 (fun c => ?_) (fun c => ?_) rfl rfl
    · unfold w_X4_append
      rintro _ rfl
      refine ⟨i + 1, append_loop v i nt S ec c hi (fun S1 hF a1 a2 a3 => ?_)⟩
      unfold w_X7_type
      have em1 : S1.1 5002 0 = nI nt := (congrFun (hF.1 5002 (by decide)) 0).trans em
      refine in_in 1 8 i hi1 hi (nb_t (by decide) ?_)
      rw [em1, nI_add]
      refine pk_le (nt + i) 300 (fun c => ?_) (fun c => absurd c (by omega)) rfl rfl
      rintro _ rfl
      refine ⟨i + 1, type_loop v i nt S1 em1 c hi (fun S2 hG b1 b2 b3 => ⟨a1.trans b1.symm, ?_⟩)⟩
      have hH : FR [301, 3, 5002, 50] S S2 := (hF.mono (by decide)).tr (hG.mono (by decide))
      refine ⟨T, X, Z, nt + i, hR.fr hH, hW.fr hH, ⟨c, ?_, b1, ?_⟩, h0.fr hH, h1.fr hH, by rw [hH.2]; exact ht⟩
      · rw [hG.1 301 (by decide)]
        exact a1
      · intro j hj
        rw [hG.1 3 (by decide)]
        by_cases cj : j < nt
        · obtain ⟨u, hu, u1, u2⟩ := hb j cj
          refine ⟨u, hu, ?_, ?_⟩
          · rw [b2 j cj, hF.1 50 (by decide)]
            exact u1
          · rw [a2 j cj]
            exact u2
        · have hj2 := a3 (j - nt) (by omega)
          have hj3 := b3 (j - nt) (by omega)
          rw [show nt + (j - nt) = j by omega] at hj2 hj3
          obtain ⟨u, hu, u1, u2⟩ := mb_cb v (i - 1 - (j - nt)) (by omega)
          exact ⟨u, hu, hj3.trans u1, hj2.trans u2⟩
    · unfold w_X7_type
      refine in_in 1 8 i hi1 hi (nb_t (by decide) ?_)
      rw [em, nI_add]
      exact pk_le (nt + i) 300 (fun c2 => absurd c2 (by omega)) (fun _ => ⟨rfl, hI⟩) rfl rfl
  · refine within_out g (nb_f rfl ?_)
    unfold w_X7_type
    exact in_out g (nb_f rfl ⟨rfl, hI⟩)
