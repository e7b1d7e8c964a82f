/-! The calls that change little: clear, holds, undo, held, saw, hide, seen, keep, back, count, trace. -/
theorem ok_clear {S : St} (h : INV S) : w_X6_clear S (fun r S1 => w_X7_clear S1 (fun r2 S2 => r = r2 ∧ INV S2)) := by
  obtain ⟨T, X, Z, n, hR, hW, hT, h0, h1, ht⟩ := h
  unfold w_X6_clear w_X7_clear
  rintro _ rfl _ rfl _ rfl _ rfl
  have e1 : S.1 301 0 = nI n := hT.2.1
  have e2 : S.1 5002 0 = nI n := hT.2.2.1
  refine ⟨e1.trans e2.symm, T, X, Z, 0, hR, hW, ⟨Nat.zero_le _, rfl, rfl, fun j hj => absurd hj (Nat.not_lt_zero j)⟩, h0, h1, ht⟩
theorem ok_trace {S : St} (h : INV S) : w_X6_trace S (fun r => w_X7_trace S (fun r2 => r = r2)) := by
  obtain ⟨T, X, Z, n, hR, hW, hT, h0, h1, ht⟩ := h
  exact ht
theorem ok_undo {S : St} (h : INV S) : w_X6_undo S (fun r S1 => w_X7_undo S1 (fun r2 S2 => r = r2 ∧ INV S2)) := by
  obtain ⟨T, X, Z, n, hR, hW, hT, h0, h1, ht⟩ := h
  obtain ⟨x12, ec, hs, he, hv, hz, hz2⟩ := hW
  have e0 : S.1 53 0 = nI (X 0) := hs 0 (by omega)
  have z0 : (0 : Int32).toNatClampNeg = 0 := rfl
  unfold w_X6_undo w_X7_undo
  refine pk_lt 0 (X 0) (fun c => ?_) (fun c => ?_) rfl ec
  · rintro _ rfl
    refine ⟨vin (i := 0) (by omega), pk_eqN (X 0) 0 (fun _ => ⟨vin (i := 0) (by omega), vin (i := 0) (by omega), ?_⟩) (fun z => absurd z (by omega)) e0 rfl⟩
    rintro _ rfl
    refine ⟨vin (i := 0) (by omega), ?_, T, fun i => if i = 0 then X 0 - 1 else X i, Z, n, hR, ⟨?_, ?_, ?_, ?_, ?_, ?_, hz2⟩, hT, h0, h1, ht⟩
    · show S.1 1900 0 - 1 = upd (S.1 53) (0 : Int32).toNatClampNeg (S.1 53 (0 : Int32).toNatClampNeg - 1) (0 : Int32).toNatClampNeg
      rw [pk_us, z0, ec, e0]
    · show X 0 - 1 ≤ 12
      omega
    · show S.1 1900 0 - 1 = nI (X 0 - 1)
      rw [ec, nI_m1 _ c]
    · intro i hi
      show upd (S.1 53) (0 : Int32).toNatClampNeg (S.1 53 (0 : Int32).toNatClampNeg - 1) (0 + i) = nI (if i = 0 then X 0 - 1 else X i)
      rw [z0, Nat.zero_add]
      by_cases hi0 : i = 0
      · subst hi0
        rw [pk_us, if_pos rfl, e0, nI_m1 _ c]
      · rw [pk_un hi0, if_neg hi0]
        have := hs i hi
        rwa [Nat.zero_add] at this
    · intro k hk
      show S.1 19 k = nI (if 1 + k = 0 then X 0 - 1 else X (1 + k)) ∧ S.1 20 k = nI (if 13 + k = 0 then X 0 - 1 else X (13 + k)) ∧ S.1 21 k = nI (if 25 + k = 0 then X 0 - 1 else X (25 + k)) ∧ S.1 22 k = nI (if 37 + k = 0 then X 0 - 1 else X (37 + k))
      rw [if_neg (by omega), if_neg (by omega), if_neg (by omega), if_neg (by omega)]
      exact he k hk
    · intro k hk
      have hk2 : k < X 0 - 1 := hk
      have := hv k (by omega)
      simpa using this
    · intro j hj
      obtain ⟨a1, a2, a3⟩ := hz j hj
      refine ⟨a1, ?_, a3⟩
      show upd (S.1 53) (0 : Int32).toNatClampNeg _ (0 + 49 + j) = enc (Z j)
      rw [z0, pk_un (by omega)]
      exact a2
  · refine ⟨vin (i := 0) (by omega), pk_eqN (X 0) 0 (fun z => absurd (by omega : X 0 = 0) z) (fun _ => ⟨rfl, T, X, Z, n, hR, ⟨x12, ec, hs, he, hv, hz, hz2⟩, hT, h0, h1, ht⟩) e0 rfl⟩
theorem ok_held {S : St} (h : INV S) (i w : Int32) : w_X6_held S i w (fun r => w_X7_held S i w (fun r2 => r = r2)) := by
  obtain ⟨T, X, Z, n, hR, hW, hT, h0, h1, ht⟩ := h
  obtain ⟨x12, ec, hs, he, hv, hz, hz2⟩ := hW
  have e0 : S.1 53 0 = nI (X 0) := hs 0 (by omega)
  have z0 : (0 : Int32).toNatClampNeg = 0 := rfl
  have hs2 : ∀ i, i < 49 → S.1 53 i = nI (X i) := fun i hi => by
    have := hs i hi
    rwa [Nat.zero_add] at this
  unfold w_X6_held w_X7_held
  have cases : (∃ j, j < X 0 ∧ i = nI j) ∨ ((i < 0 ∨ nI (X 0) - 1 < i)) := by
    by_cases hx0 : X 0 = 0
    · refine Or.inr ?_
      rw [hx0]
      by_cases hx : i < 0
      · exact Or.inl hx
      · refine Or.inr ?_
        obtain ⟨j, hj, rfl⟩ := nI_of hx
        rw [Int32.lt_iff_toInt_lt, nI_toInt hj]
        have : (nI 0 - 1).toInt = -1 := by decide
        omega
    · rcases rng_cases i 0 (X 0 - 1) (by omega) (by omega) with ⟨j, -, hj, rfl⟩ | h
      · exact Or.inl ⟨j, by omega, rfl⟩
      · refine Or.inr ?_
        rw [nI_m1 _ (by omega)]
        exact h
  have out : ∀ v : Int32, (i < 0 ∨ nI (X 0) - 1 < i) → v = -1 → (vp_in (0 : Int32) 55 ∧ (w_X7_in i (0 : Int32) ((S.1 53 (0 : Int32).toNatClampNeg) - (1 : Int32)) (fun r1 => ((r1 = 0 → v = (-1 : Int32)) ∧ (¬ r1 = 0 → (w_X7_in w (0 : Int32) (3 : Int32) (fun r2 => ((¬ r2 = 0 → (vp_in (((1 : Int32) + ((12 : Int32) * w)) + i) 55 ∧ v = (S.1 53 (((1 : Int32) + ((12 : Int32) * w)) + i).toNatClampNeg))) ∧ (r2 = 0 → v = (-1 : Int32)))))))))) := by
    intro v hx hv1
    refine ⟨vin (i := 0) (by omega), in_out ?_ (br_t rfl hv1)⟩
    rw [z0, e0]
    exact hx
  rcases cases with ⟨j, hj, rfl⟩ | hx
  · obtain ⟨a1, a2, a3, a4⟩ := he j (by omega)
    have inn : ∀ (v : Int32) (k : Nat), k ≤ 3 → w = nI k → v = nI (X (1 + 12 * k + j)) → (vp_in (0 : Int32) 55 ∧ (w_X7_in (nI j) (0 : Int32) ((S.1 53 (0 : Int32).toNatClampNeg) - (1 : Int32)) (fun r1 => ((r1 = 0 → v = (-1 : Int32)) ∧ (¬ r1 = 0 → (w_X7_in w (0 : Int32) (3 : Int32) (fun r2 => ((¬ r2 = 0 → (vp_in (((1 : Int32) + ((12 : Int32) * w)) + nI j) 55 ∧ v = (S.1 53 (((1 : Int32) + ((12 : Int32) * w)) + nI j).toNatClampNeg))) ∧ (r2 = 0 → v = (-1 : Int32)))))))))) := by
      intro v k hk hw hv1
      refine ⟨vin (i := 0) (by omega), ?_⟩
      rw [z0, e0, nI_m1 _ (by omega)]
      refine in_in 0 (X 0 - 1) j (by omega) (by omega) (br_f (by decide) ?_)
      refine in_in 0 3 k (by omega) hk (nb_t (by decide) ?_) hw
      have e12 : (1 : Int32) + (12 : Int32) * w + nI j = nI (1 + 12 * k + j) := by
        rw [hw, show (1 : Int32) = nI 1 from rfl, show (12 : Int32) = nI 12 from rfl, pk_mul, nI_add, nI_add]
      rw [e12]
      refine ⟨vin (by omega), ?_⟩
      rw [nI_clamp (by omega), hs2 _ (by omega)]
      exact hv1
    rw [ec, nI_m1 _ (by omega)]
    refine within_in 0 (X 0 - 1) j (by omega) (by omega) (nb_t (by decide) ⟨fun hw => ?_, fun hw => ?_, fun hw => ?_, fun hw => ?_, fun hw => ?_⟩)
    · refine ⟨vin (i := 0) (by omega), ?_⟩
      rw [z0, e0, nI_m1 _ (by omega)]
      refine in_in 0 (X 0 - 1) j (by omega) (by omega) (br_f (by decide) ?_)
      refine in_out ?_ (nb_f rfl rfl)
      rw [Int32.lt_iff_toInt_lt, Int32.lt_iff_toInt_lt]
      exact hw
    · refine ⟨vin (by omega), inn _ 0 (by omega) hw ?_⟩
      rw [nI_clamp (by omega), a1]
    · refine ⟨vin (by omega), inn _ 1 (by omega) hw ?_⟩
      rw [nI_clamp (by omega), a2]
    · refine ⟨vin (by omega), inn _ 2 (by omega) hw ?_⟩
      rw [nI_clamp (by omega), a3]
    · refine ⟨vin (by omega), inn _ 3 (by omega) hw ?_⟩
      rw [nI_clamp (by omega), a4]
  · refine within_out ?_ (nb_f rfl (out _ hx rfl))
    rw [ec]
    exact hx
theorem ok_seen {S : St} (h : INV S) (x : Int32) : w_X6_seen S x (fun r => w_X7_seen S x (fun r2 => r = r2)) := by
  obtain ⟨T, X, Z, n, hR, hW, hT, h0, h1, ht⟩ := h
  obtain ⟨x12, ec, hs, he, hv, hz, hz2⟩ := hW
  have hR' := hR
  obtain ⟨⟨hB, -, -⟩, ⟨e0, -, -⟩, htl, -⟩ := hR'
  unfold w_X6_seen w_X7_seen
  rcases bar_cases hR x with ⟨j, hj, rfl⟩ | ⟨h1, h2⟩
  · refine hasBar_in e0 hB hj (br_f (by decide) ⟨vin (by omega), ?_⟩)
    refine isBar_in (htl 0 (by omega)) hB hj (br_f (by decide) ?_)
    have e4 : (49 : Int32) + nI j = nI (49 + j) := nI_add 49 j
    obtain ⟨a1, a2, a3⟩ := hz j (by omega)
    rw [Nat.zero_add] at a2
    rw [e4]
    refine ⟨vin (by omega), ?_⟩
    rw [nI_clamp (by omega), nI_clamp (by omega), a1, a2]
  · exact hasBar_out h1 (br_t rfl (isBar_out h2 (br_t rfl rfl)))
theorem enc_9 {z : Nat} (h : z ≤ 1000) : enc z = -9 ↔ z = 0 := by
  unfold enc
  by_cases hz : z = 0
  · simp [hz]
  · rw [if_neg hz]
    constructor
    · intro q
      have q2 := congrArg Int32.toInt q
      rw [nI_toInt (by omega)] at q2
      have : (-9 : Int32).toInt = -9 := by decide
      omega
    · intro q
      exact absurd q hz
theorem sight_INV {S : St} {T X Z : Nat → Nat} {n j v : Nat} (hR : RAIL S T) (hW : NOW S T X Z) (hT : TEXT S n) (h0 : IMG0 S T) (h1 : IMG1 S T) (ht : S.2 0 = S.2 1) (hj : j < T 0) (hv : v ≤ 1000) (f g : Nat → Int32) (hf : f = upd (S.1 23) j (enc v)) (hg : g = upd (S.1 53) (49 + j) (enc v)) : INV (setA (setA S 23 f) 53 g) := by
  obtain ⟨x12, ec, hs, he, hv2, hz, hz2⟩ := hW
  have hj6 : j < 6 := Nat.lt_of_lt_of_le hj hR.1.1
  refine ⟨T, X, fun i => if i = j then v else Z i, n, hR, ⟨x12, ec, ?_, he, hv2, ?_, ?_⟩, hT, h0, h1, ht⟩
  · intro i hi
    show g (0 + i) = nI (X i)
    rw [hg, pk_un (by omega)]
    exact hs i hi
  · intro i hi
    obtain ⟨a1, a2, a3⟩ := hz i hi
    show f i = enc (if i = j then v else Z i) ∧ g (0 + 49 + i) = enc (if i = j then v else Z i) ∧ (if i = j then v else Z i) ≤ 1000
    by_cases hij : i = j
    · subst hij
      rw [if_pos rfl, hf, hg, Nat.zero_add, pk_us, pk_us]
      exact ⟨rfl, rfl, hv⟩
    · rw [if_neg hij, hf, hg, pk_un hij, pk_un (by omega)]
      exact ⟨a1, a2, a3⟩
  · intro i hi hi6
    show (if i = j then v else Z i) = 0
    rw [if_neg (by omega)]
    exact hz2 i hi hi6
theorem ok_saw {S : St} (h : INV S) (x v : Int32) : w_X6_saw S x v (fun r S1 => w_X7_saw S1 x v (fun r2 S2 => r = r2 ∧ INV S2)) := by
  have hI := h
  obtain ⟨T, X, Z, n, hR, hW, hT, h0, h1, ht⟩ := h
  have hW' := hW
  obtain ⟨x12, ec, hs, he, hv, hz, hz2⟩ := hW'
  have hR' := hR
  obtain ⟨⟨hB, -, -⟩, ⟨e0, -, -⟩, htl, -⟩ := hR'
  unfold w_X6_saw w_X7_saw
  rcases bar_cases hR x with ⟨j, hj, rfl⟩ | ⟨h1, h2⟩
  · obtain ⟨a1, a2, a3⟩ := hz j (by omega)
    rw [Nat.zero_add] at a2
    refine hasBar_in e0 hB hj (br_f (by decide) ?_)
    rcases rng_cases v 0 999 (by omega) (by omega) with ⟨i, -, hi, rfl⟩ | hv9
    · refine within_in 0 999 i (by omega) (by omega) (nb_t (by decide) ⟨vin (by omega), ?_⟩)
      rintro _ rfl
      refine ⟨vin (by omega), ?_⟩
      rintro _ rfl
      refine isBar_in (htl 0 (by omega)) hB hj (br_f (by decide) ?_)
      refine in_in 0 999 i (by omega) (by omega) (nb_t (by decide) ?_)
      have e4 : (49 : Int32) + nI j = nI (49 + j) := nI_add 49 j
      rw [e4]
      refine ⟨vin (by omega), ?_⟩
      rintro _ rfl
      refine ⟨vin (by omega), ?_⟩
      rintro _ rfl
      rw [nI_clamp (by omega), nI_clamp (by omega)]
      refine ⟨a1.trans a2.symm, sight_INV (v := i + 1) hR hW hT h0 h1 ht hj (by omega) _ _ ?_ ?_⟩
      · rw [show enc (i + 1) = nI i from by simp [enc]]
      · rw [show enc (i + 1) = nI i from by simp [enc]]
        rfl
    · refine within_out hv9 (nb_f rfl ?_)
      refine isBar_in (htl 0 (by omega)) hB hj (br_f (by decide) ?_)
      exact in_out hv9 (nb_f rfl ⟨rfl, hI⟩)
  · exact hasBar_out h1 (br_t rfl (isBar_out h2 (br_t rfl ⟨rfl, hI⟩)))
theorem ok_hide {S : St} (h : INV S) (x : Int32) : w_X6_hide S x (fun r S1 => w_X7_hide S1 x (fun r2 S2 => r = r2 ∧ INV S2)) := by
  have hI := h
  obtain ⟨T, X, Z, n, hR, hW, hT, h0, h1, ht⟩ := h
  have hW' := hW
  obtain ⟨x12, ec, hs, he, hv, hz, hz2⟩ := hW'
  have hR' := hR
  obtain ⟨⟨hB, -, -⟩, ⟨e0, -, -⟩, htl, -⟩ := hR'
  unfold w_X6_hide w_X7_hide
  rcases bar_cases hR x with ⟨j, hj, rfl⟩ | ⟨h1, h2⟩
  · obtain ⟨a1, a2, a3⟩ := hz j (by omega)
    rw [Nat.zero_add] at a2
    have e4 : (49 : Int32) + nI j = nI (49 + j) := nI_add 49 j
    refine hasBar_in e0 hB hj (nb_t (by decide) ⟨vin (by omega), ?_⟩)
    rw [nI_clamp (by omega), a1]
    rintro _ rfl
    by_cases hz0 : Z j = 0
    · refine nb_f ((enc_9 a3).mpr hz0) ?_
      refine isBar_in (htl 0 (by omega)) hB hj (nb_t (by decide) ?_)
      rw [e4]
      refine ⟨vin (by omega), ?_⟩
      rw [nI_clamp (by omega), a2]
      exact nb_f ((enc_9 a3).mpr hz0) ⟨rfl, hI⟩
    · refine nb_t (fun q => hz0 ((enc_9 a3).mp q)) ⟨vin (by omega), ?_⟩
      rintro _ rfl
      refine isBar_in (htl 0 (by omega)) hB hj (nb_t (by decide) ?_)
      rw [e4]
      refine ⟨vin (by omega), ?_⟩
      rw [nI_clamp (by omega)]
      refine nb_t (fun q => hz0 ((enc_9 a3).mp (a2.symm.trans q))) ⟨vin (by omega), ?_⟩
      rintro _ rfl
      refine ⟨vin (by omega), ?_⟩
      rintro _ rfl
      exact ⟨a2.symm, sight_INV (v := 0) hR hW hT h0 h1 ht hj (by omega) _ _ rfl rfl⟩
  · exact hasBar_out h1 (nb_f rfl (isBar_out h2 (nb_f rfl ⟨rfl, hI⟩)))
