def w_X0_fewest (S0 : St)  (Q : Int32 → St → Prop) : Prop :=
  (w_X0_fewestFrom 8 S0 (S0.1 4700 0) (0 : Int32)  (fun r1 S2 => (((100 : Int32) ≤ r1 → Q (-9 : Int32) S2) ∧ (¬ (100 : Int32) ≤ r1 → Q r1 S2))))
set_option maxRecDepth 100000 in
set_option maxHeartbeats 4000000 in
theorem c_X0_fewest {e : GE} {S0 : St}  {Q : Int32 → St → Prop} (h : w_X0_fewest S0  Q) : CT e yX0_fewest cX0_fewest 2 (some .int) 11 [.ref (e.2.2.1 46)] S0 (pI Q) := by
  refine CT.of (by decide) (Nat.le_of_ble_eq_true rfl) (fun Z hR => ?_)
  rw [w_X0_fewest] at h
  show MW Z e cX0_fewest 2 RX0 11 0 [(0, .ref (e.2.2.1 46))] [] S0
  refine m_aload_n dX0_fewest_0 0 rfl rfl ?_
  refine m_get 46 1 (o_46 e _) rfl inlX0 (by decide) q5_8 rfl dX0_fewest_1 ?_
  refine m_aload_n dX0_fewest_4 0 rfl rfl ?_
  refine m_get 46 2 (o_46 e _) rfl inlX0 (by decide) q5_9 rfl dX0_fewest_5 ?_
  refine m_aload_n dX0_fewest_8 0 rfl rfl ?_
  refine m_get 46 0 (o_46 e _) rfl inlX0 (by decide) q5_7 rfl dX0_fewest_9 ?_
  refine m_iconst (v := 0) dX0_fewest_12 (by decide) ?_
  refine m_callS [.ref (e.2.2.1 47), .ref (e.2.2.1 48), .int (S0.1 4700 0), .int (0 : Int32)] (c_X0_fewestFrom 8 _ _ _ _ h) q28_18 q28_19 q2_12 q28_20 t_X0_fewestFrom rfl (by omega) (by decide) (Nat.le_of_ble_eq_true rfl) rfl dX0_fewest_13 (kI (P := MW Z e cX0_fewest 2 RX0 11 16 [(0, .ref (e.2.2.1 46))]) (fun r1 S2 h => ?_))
  refine m_istore_n (lv2 := [(1, .int r1), (0, .ref (e.2.2.1 46))]) dX0_fewest_16 rfl (by decide) rfl ?_
  refine m_iload_n dX0_fewest_17 0 rfl rfl ?_
  refine m_bipush (v := 100) dX0_fewest_18 (by decide) ?_
  refine m_icmp_ge (tgt := 27) dX0_fewest_20 (by decide) (fun z => ?_) (fun z => ?_)
  · replace h := h.1 z
    refine m_bipush (v := -9) dX0_fewest_27 (by decide) ?_
    exact m_iret hR ⟨_, rfl, h⟩ dX0_fewest_29
  · replace h := h.2 z
    refine m_iload_n dX0_fewest_23 0 rfl rfl ?_
    refine m_goto (tgt := 29) dX0_fewest_24 (by decide) ?_
    exact m_iret hR ⟨_, rfl, h⟩ dX0_fewest_29
def X6_swaps_L10 (kx : St → Prop) : Nat → St → Int32 → Prop
  | 0 => fun _ _ => False
  | n + 1 => (fun (rec : St → Int32 → Prop) => fun (S2 : St) (v3 : Int32) => (((S2.1 1200 0) ≤ v3 → kx S2) ∧ (¬ (S2.1 1200 0) ≤ v3 → (vp_in v3 6 ∧ (((S2.1 23 v3.toNatClampNeg) = (-9 : Int32) → ∀ x4 : Int32, x4 = v3 + (1 : Int32) → rec S2 x4) ∧ (¬ (S2.1 23 v3.toNatClampNeg) = (-9 : Int32) → (w_X6_rustByHolds S2 v3 (9 : Int32)  (fun r5 => (vp_in v3 6 ∧ (w_X0_add S2 r5 (S2.1 23 v3.toNatClampNeg)  (fun S6 => ∀ x7 : Int32, x7 = v3 + (1 : Int32) → rec S6 x7))))))))))) (X6_swaps_L10 kx n)
def w_X6_swaps (S0 : St)  (Q : Int32 → St → Prop) : Prop :=
  ∀ S1 : St, S1 = setI S0 4700 (0 : Int32) → (∃ n : Nat, X6_swaps_L10 (fun (S9 : St) => (w_X0_fewest S9 (fun r10 S11 => Q r10 S11))) n S1 (0 : Int32))
set_option maxRecDepth 100000 in
set_option maxHeartbeats 4000000 in
theorem l_X6_swaps_L10 {Z : Zt} {e : GE} {kx : St → Prop} (hk : ∀ (S8 : St), kx S8 → MW Z e cX6_swaps 2 RX6 12 64 [(0, .ref (e.2.2.1 0))] [] S8) : ∀ (n : Nat) (S2 : St) (v3 : Int32), X6_swaps_L10 kx n S2 v3 → MW Z e cX6_swaps 2 RX6 12 10 [(0, .ref (e.2.2.1 0)), (1, .int v3)] [] S2 := by
  intro n
  induction n with
  | zero =>
    intro S2 v3 h
    exact h.elim
  | succ n ih =>
    intro S2 v3 h
    rw [X6_swaps_L10] at h
    refine m_iload_n dX6_swaps_10 1 rfl rfl ?_
    refine m_aload_n dX6_swaps_11 0 rfl rfl ?_
    refine m_get 0 2 (o_0 e _) rfl inlX6 (by decide) q1_22 rfl dX6_swaps_12 ?_
    refine m_get 11 0 (o_11 e _) rfl inlX2 (by decide) q25_0 rfl dX6_swaps_15 ?_
    refine m_icmp_ge (tgt := 64) dX6_swaps_18 (by decide) (fun z => ?_) (fun z => ?_)
    · replace h := h.1 z
      refine m_loc [0] rfl ?_
      exact hk S2 h
    · replace h := h.2 z
      refine m_aload_n dX6_swaps_21 0 rfl rfl ?_
      refine m_get 0 3 (o_0 e _) rfl inlX6 (by decide) q2_2 rfl dX6_swaps_22 ?_
      refine m_get 18 5 (o_18 e _) rfl inlX1 (by decide) q21_8 rfl dX6_swaps_25 ?_
      refine m_iload_n dX6_swaps_28 1 rfl rfl ?_
      refine m_iald 23 (a_23 e _) h.1 dX6_swaps_29 ?_
      replace h := h.2
      refine m_bipush (v := -9) dX6_swaps_30 (by decide) ?_
      refine m_icmp_eq (tgt := 58) dX6_swaps_32 (by decide) (fun z => ?_) (fun z => ?_)
      · replace h := h.1 z
        obtain ⟨x4, ex4⟩ : ∃ y : Int32, y = v3 + (1 : Int32) := ⟨_, rfl⟩
        replace h := h x4 ex4
        refine m_iinc (v := x4) (lv2 := [(1, .int x4), (0, .ref (e.2.2.1 0))]) dX6_swaps_58 1 rfl ex4.symm (by decide) rfl ?_
        refine m_goto (tgt := 10) dX6_swaps_61 (by decide) ?_
        refine m_loc [1, 0] rfl ?_
        exact ih S2 x4 h
      · replace h := h.2 z
        refine m_aload_n dX6_swaps_35 0 rfl rfl ?_
        refine m_get 0 7 (o_0 e _) rfl inlX6 (by decide) q2_13 rfl dX6_swaps_36 ?_
        refine m_aload_n dX6_swaps_39 0 rfl rfl ?_
        refine m_iload_n dX6_swaps_40 1 rfl rfl ?_
        refine m_bipush (v := 9) dX6_swaps_41 (by decide) ?_
        refine m_callV 0 [.int v3, .int (9 : Int32)] (c_X6_rustByHolds h) (o_0 e _) rfl rfl q19_22 q19_23 q20_0 q1_2 q20_1 t_X6_rustByHolds rfl (by omega) (by decide) (Nat.le_of_ble_eq_true rfl) rfl dX6_swaps_43 (kR (P := MW Z e cX6_swaps 2 RX6 12 46 [(0, .ref (e.2.2.1 0)), (1, .int v3)]) (fun r5 h => ?_))
        refine m_aload_n dX6_swaps_46 0 rfl rfl ?_
        refine m_get 0 3 (o_0 e _) rfl inlX6 (by decide) q2_2 rfl dX6_swaps_47 ?_
        refine m_get 18 5 (o_18 e _) rfl inlX1 (by decide) q21_8 rfl dX6_swaps_50 ?_
        refine m_iload_n dX6_swaps_53 1 rfl rfl ?_
        refine m_iald 23 (a_23 e _) h.1 dX6_swaps_54 ?_
        replace h := h.2
        refine m_callV 46 [.int r5, .int (S2.1 23 v3.toNatClampNeg)] (c_X0_add h) (o_46 e _) rfl rfl q28_10 q28_11 q28_12 q2_12 q28_13 t_X0_add rfl (by omega) (by decide) (Nat.le_of_ble_eq_true rfl) rfl dX6_swaps_55 (kV (P := MW Z e cX6_swaps 2 RX6 12 58 [(0, .ref (e.2.2.1 0)), (1, .int v3)]) (fun S6 h => ?_))
        obtain ⟨x7, ex7⟩ : ∃ y : Int32, y = v3 + (1 : Int32) := ⟨_, rfl⟩
        replace h := h x7 ex7
        refine m_iinc (v := x7) (lv2 := [(1, .int x7), (0, .ref (e.2.2.1 0))]) dX6_swaps_58 1 rfl ex7.symm (by decide) rfl ?_
        refine m_goto (tgt := 10) dX6_swaps_61 (by decide) ?_
        refine m_loc [1, 0] rfl ?_
        exact ih S6 x7 h
set_option maxRecDepth 100000 in
set_option maxHeartbeats 4000000 in
theorem c_X6_swaps {e : GE} {S0 : St}  {Q : Int32 → St → Prop} (h : w_X6_swaps S0  Q) : CT e yX6_swaps cX6_swaps 2 (some .int) 12 [.ref (e.2.2.1 0)] S0 (pI Q) := by
  refine CT.of (by decide) (Nat.le_of_ble_eq_true rfl) (fun Z hR => ?_)
  rw [w_X6_swaps] at h
  show MW Z e cX6_swaps 2 RX6 12 0 [(0, .ref (e.2.2.1 0))] [] S0
  refine m_aload_n dX6_swaps_0 0 rfl rfl ?_
  refine m_get 0 7 (o_0 e _) rfl inlX6 (by decide) q2_13 rfl dX6_swaps_1 ?_
  refine m_iconst (v := 0) dX6_swaps_4 (by decide) ?_
  refine m_put (S2 := setI S0 4700 (0 : Int32)) 46 0 tyX0 tyX0_ok nmX0 (o_46 e _) rfl inlX0 (by decide) q28_9 rfl (tyX0_ok 0 (by decide)) rfl rfl (Nat.le_of_ble_eq_true rfl) (p_46_0 e _ _) dX6_swaps_5 (fun S1 eS1 => ?_)
  replace h := h S1 eS1
  refine m_iconst (v := 0) dX6_swaps_8 (by decide) ?_
  refine m_istore_n (lv2 := [(1, .int (0 : Int32)), (0, .ref (e.2.2.1 0))]) dX6_swaps_9 rfl (by decide) rfl ?_
  obtain ⟨n, h⟩ := h
  refine m_loc [1, 0] rfl ?_
  refine l_X6_swaps_L10 (fun S9 h => ?_) n S1 (0 : Int32) h
  refine m_aload_n dX6_swaps_64 0 rfl rfl ?_
  refine m_get 0 7 (o_0 e _) rfl inlX6 (by decide) q2_13 rfl dX6_swaps_65 ?_
  refine m_callV 46 [] (c_X0_fewest h) (o_46 e _) rfl rfl q28_14 q28_15 q28_16 q2_12 q28_17 t_X0_fewest rfl (by omega) (by decide) (Nat.le_of_ble_eq_true rfl) rfl dX6_swaps_68 (kI (P := MW Z e cX6_swaps 2 RX6 12 71 [(0, .ref (e.2.2.1 0))]) (fun r10 S11 h => ?_))
  exact m_iret hR ⟨_, rfl, h⟩ dX6_swaps_71
def w_X6_rateOfBar (S0 : St) (p1 : Int32) (Q : Int32 → St → Prop) : Prop :=
  ∀ S1 : St, S1 = setL S0 0 ((S0.2 0) + (1 : Int64)) → (vp_in p1 6 ∧ Q (S1.1 12 p1.toNatClampNeg) S1)
set_option maxRecDepth 100000 in
set_option maxHeartbeats 4000000 in
theorem c_X6_rateOfBar {e : GE} {S0 : St} {p1 : Int32} {Q : Int32 → St → Prop} (h : w_X6_rateOfBar S0 p1 Q) : CT e yX6_rateOfBar cX6_rateOfBar 2 (some .int) 1 [.ref (e.2.2.1 0), .int p1] S0 (pI Q) := by
  refine CT.of (by decide) (Nat.le_of_ble_eq_true rfl) (fun Z hR => ?_)
  rw [w_X6_rateOfBar] at h
  show MW Z e cX6_rateOfBar 2 RX6 1 0 [(0, .ref (e.2.2.1 0)), (1, .int p1)] [] S0
  refine m_aload_n dX6_rateOfBar_0 0 rfl rfl ?_
  refine m_dup dX6_rateOfBar_1 rfl ?_
  refine m_get 0 8 (o_0 e _) rfl inlX6 (by decide) q2_14 rfl dX6_rateOfBar_2 ?_
  refine m_lconst (v := 1) dX6_rateOfBar_5 (by decide) ?_
  refine m_ladd dX6_rateOfBar_6 ?_
  refine m_put (S2 := setL S0 0 ((S0.2 0) + (1 : Int64))) 0 8 tyX6 tyX6_ok nmX6 (o_0 e _) rfl inlX6 (by decide) q2_14 rfl (tyX6_ok 8 (by decide)) rfl rfl (Nat.le_of_ble_eq_true rfl) (p_0_8 e _ _) dX6_rateOfBar_7 (fun S1 eS1 => ?_)
  replace h := h S1 eS1
  refine m_aload_n dX6_rateOfBar_10 0 rfl rfl ?_
  refine m_get 0 2 (o_0 e _) rfl inlX6 (by decide) q1_22 rfl dX6_rateOfBar_11 ?_
  refine m_get 11 3 (o_11 e _) rfl inlX2 (by decide) q15_19 rfl dX6_rateOfBar_14 ?_
  refine m_iload_n dX6_rateOfBar_17 1 rfl rfl ?_
  refine m_iald 12 (a_12 e _) h.1 dX6_rateOfBar_18 ?_
  replace h := h.2
  exact m_iret hR ⟨_, rfl, h⟩ dX6_rateOfBar_19
def X2_coveredYears_L4 (S4 : St) (f3 : Int32) (kx : Int32 → Prop) : Nat → Int32 → Int32 → Prop
  | 0 => fun _ _ => False
  | n + 1 => (fun (rec : Int32 → Int32 → Prop) => fun (v1 : Int32) (v2 : Int32) => (((10 : Int32) ≤ v2 → kx v1) ∧ (¬ (10 : Int32) ≤ v2 → (w_X2_isCovered S4 f3 v2  (fun r5 => ((r5 = 0 → ∀ x6 : Int32, x6 = v2 + (1 : Int32) → rec v1 x6) ∧ (¬ r5 = 0 → ∀ x7 : Int32, x7 = v1 + (1 : Int32) → ∀ x8 : Int32, x8 = v2 + (1 : Int32) → rec x7 x8))))))) (X2_coveredYears_L4 S4 f3 kx n)
def w_X2_coveredYears (S0 : St) (p1 : Int32) (Q : Int32 → Prop) : Prop :=
  (∃ n : Nat, X2_coveredYears_L4 S0 p1 (fun (v10 : Int32) => Q v10) n (0 : Int32) (0 : Int32))
set_option maxRecDepth 100000 in
set_option maxHeartbeats 4000000 in
theorem l_X2_coveredYears_L4 {Z : Zt} {e : GE} {S4 : St} {f3 : Int32} {kx : Int32 → Prop} (hk : ∀ (v9 : Int32), kx v9 → MW Z e cX2_coveredYears 4 RX2 3 28 [(2, .int v9)] [] S4) : ∀ (n : Nat) (v1 : Int32) (v2 : Int32), X2_coveredYears_L4 S4 f3 kx n v1 v2 → MW Z e cX2_coveredYears 4 RX2 3 4 [(0, .ref (e.2.2.1 11)), (1, .int f3), (2, .int v1), (3, .int v2)] [] S4 := by
  intro n
  induction n with
  | zero =>
    intro v1 v2 h
    exact h.elim
  | succ n ih =>
    intro v1 v2 h
    rw [X2_coveredYears_L4] at h
    refine m_iload_n dX2_coveredYears_4 3 rfl rfl ?_
    refine m_bipush (v := 10) dX2_coveredYears_5 (by decide) ?_
    refine m_icmp_ge (tgt := 28) dX2_coveredYears_7 (by decide) (fun z => ?_) (fun z => ?_)
    · replace h := h.1 z
      refine m_loc [2] rfl ?_
      exact hk v1 h
    · replace h := h.2 z
      refine m_aload_n dX2_coveredYears_10 0 rfl rfl ?_
      refine m_iload_n dX2_coveredYears_11 1 rfl rfl ?_
      refine m_iload_n dX2_coveredYears_12 3 rfl rfl ?_
      refine m_callV 11 [.int f3, .int v2] (c_X2_isCovered h) (o_11 e _) rfl rfl q20_10 q17_22 q17_23 q1_21 q18_0 t_X2_isCovered rfl (by omega) (by decide) (Nat.le_of_ble_eq_true rfl) rfl dX2_coveredYears_13 (kR (P := MW Z e cX2_coveredYears 4 RX2 3 16 [(0, .ref (e.2.2.1 11)), (1, .int f3), (2, .int v1), (3, .int v2)]) (fun r5 h => ?_))
      refine m_if_eq (tgt := 22) dX2_coveredYears_16 (by decide) (fun z => ?_) (fun z => ?_)
      · replace h := h.1 z
        obtain ⟨x6, ex6⟩ : ∃ y : Int32, y = v2 + (1 : Int32) := ⟨_, rfl⟩
        replace h := h x6 ex6
        refine m_iinc (v := x6) (lv2 := [(3, .int x6), (0, .ref (e.2.2.1 11)), (1, .int f3), (2, .int v1)]) dX2_coveredYears_22 3 rfl ex6.symm (by decide) rfl ?_
        refine m_goto (tgt := 4) dX2_coveredYears_25 (by decide) ?_
        refine m_loc [1, 2, 3, 0] rfl ?_
        exact ih v1 x6 h
      · replace h := h.2 z
        obtain ⟨x7, ex7⟩ : ∃ y : Int32, y = v1 + (1 : Int32) := ⟨_, rfl⟩
        replace h := h x7 ex7
        refine m_iinc (v := x7) (lv2 := [(2, .int x7), (0, .ref (e.2.2.1 11)), (1, .int f3), (3, .int v2)]) dX2_coveredYears_19 2 rfl ex7.symm (by decide) rfl ?_
        obtain ⟨x8, ex8⟩ : ∃ y : Int32, y = v2 + (1 : Int32) := ⟨_, rfl⟩
        replace h := h x8 ex8
        refine m_iinc (v := x8) (lv2 := [(3, .int x8), (2, .int x7), (0, .ref (e.2.2.1 11)), (1, .int f3)]) dX2_coveredYears_22 3 rfl ex8.symm (by decide) rfl ?_
        refine m_goto (tgt := 4) dX2_coveredYears_25 (by decide) ?_
        refine m_loc [2, 3, 1, 0] rfl ?_
        exact ih x7 x8 h
set_option maxRecDepth 100000 in
set_option maxHeartbeats 4000000 in
theorem c_X2_coveredYears {e : GE} {S0 : St} {p1 : Int32} {Q : Int32 → Prop} (h : w_X2_coveredYears S0 p1 Q) : CT e yX2_coveredYears cX2_coveredYears 4 (some .int) 3 [.ref (e.2.2.1 11), .int p1] S0 (pR S0 Q) := by
  refine CT.of (by decide) (Nat.le_of_ble_eq_true rfl) (fun Z hR => ?_)
  rw [w_X2_coveredYears] at h
  show MW Z e cX2_coveredYears 4 RX2 3 0 [(0, .ref (e.2.2.1 11)), (1, .int p1)] [] S0
  refine m_iconst (v := 0) dX2_coveredYears_0 (by decide) ?_
  refine m_istore_n (lv2 := [(2, .int (0 : Int32)), (0, .ref (e.2.2.1 11)), (1, .int p1)]) dX2_coveredYears_1 rfl (by decide) rfl ?_
  refine m_iconst (v := 0) dX2_coveredYears_2 (by decide) ?_
  refine m_istore_n (lv2 := [(3, .int (0 : Int32)), (2, .int (0 : Int32)), (0, .ref (e.2.2.1 11)), (1, .int p1)]) dX2_coveredYears_3 rfl (by decide) rfl ?_
  obtain ⟨n, h⟩ := h
  refine m_loc [2, 3, 1, 0] rfl ?_
  refine l_X2_coveredYears_L4 (fun v10 h => ?_) n (0 : Int32) (0 : Int32) h
  refine m_iload_n dX2_coveredYears_28 0 rfl rfl ?_
  exact m_iret hR ⟨_, rfl, rfl, h⟩ dX2_coveredYears_29
def w_X6_rateOfRail (S0 : St) (p1 : Int32) (Q : Int32 → St → Prop) : Prop :=
  ∀ S1 : St, S1 = setL S0 0 ((S0.2 0) + (10 : Int64)) → (w_X6_rateOfBar S1 p1  (fun r2 S3 => (w_X2_coveredYears S3 p1  (fun r4 => Q (r2 + r4) S3))))
set_option maxRecDepth 100000 in
set_option maxHeartbeats 4000000 in
theorem c_X6_rateOfRail {e : GE} {S0 : St} {p1 : Int32} {Q : Int32 → St → Prop} (h : w_X6_rateOfRail S0 p1 Q) : CT e yX6_rateOfRail cX6_rateOfRail 2 (some .int) 4 [.ref (e.2.2.1 0), .int p1] S0 (pI Q) := by
  refine CT.of (by decide) (Nat.le_of_ble_eq_true rfl) (fun Z hR => ?_)
  rw [w_X6_rateOfRail] at h
  show MW Z e cX6_rateOfRail 2 RX6 4 0 [(0, .ref (e.2.2.1 0)), (1, .int p1)] [] S0
  refine m_aload_n dX6_rateOfRail_0 0 rfl rfl ?_
  refine m_dup dX6_rateOfRail_1 rfl ?_
  refine m_get 0 8 (o_0 e _) rfl inlX6 (by decide) q2_14 rfl dX6_rateOfRail_2 ?_
  refine m_ldc2 q30_2 dX6_rateOfRail_5 ?_
  refine m_ladd dX6_rateOfRail_8 ?_
  refine m_put (S2 := setL S0 0 ((S0.2 0) + (10 : Int64))) 0 8 tyX6 tyX6_ok nmX6 (o_0 e _) rfl inlX6 (by decide) q2_14 rfl (tyX6_ok 8 (by decide)) rfl rfl (Nat.le_of_ble_eq_true rfl) (p_0_8 e _ _) dX6_rateOfRail_9 (fun S1 eS1 => ?_)
  replace h := h S1 eS1
  refine m_aload_n dX6_rateOfRail_12 0 rfl rfl ?_
  refine m_iload_n dX6_rateOfRail_13 1 rfl rfl ?_
  refine m_callV 0 [.int p1] (c_X6_rateOfBar h) (o_0 e _) rfl rfl q29_18 q29_19 q29_20 q1_2 q29_21 t_X6_rateOfBar rfl (by omega) (by decide) (Nat.le_of_ble_eq_true rfl) rfl dX6_rateOfRail_14 (kI (P := MW Z e cX6_rateOfRail 2 RX6 4 17 [(0, .ref (e.2.2.1 0)), (1, .int p1)]) (fun r2 S3 h => ?_))
  refine m_aload_n dX6_rateOfRail_17 0 rfl rfl ?_
  refine m_get 0 2 (o_0 e _) rfl inlX6 (by decide) q1_22 rfl dX6_rateOfRail_18 ?_
  refine m_iload_n dX6_rateOfRail_21 1 rfl rfl ?_
  refine m_callV 11 [.int p1] (c_X2_coveredYears h) (o_11 e _) rfl rfl q30_3 q30_4 q30_5 q1_21 q30_6 t_X2_coveredYears rfl (by omega) (by decide) (Nat.le_of_ble_eq_true rfl) rfl dX6_rateOfRail_22 (kR (P := MW Z e cX6_rateOfRail 2 RX6 4 25 [(0, .ref (e.2.2.1 0)), (1, .int p1)]) (fun r4 h => ?_))
  refine m_iadd dX6_rateOfRail_25 ?_
  exact m_iret hR ⟨_, rfl, h⟩ dX6_rateOfRail_26
def X1_holdsOf_L4 (S4 : St) (f3 : Int32) (kx : Int32 → Prop) : Nat → Int32 → Int32 → Prop
  | 0 => fun _ _ => False
  | n + 1 => (fun (rec : Int32 → Int32 → Prop) => fun (v1 : Int32) (v2 : Int32) => (((S4.1 1900 0) ≤ v2 → kx v1) ∧ (¬ (S4.1 1900 0) ≤ v2 → (vp_in v2 12 ∧ ((¬ (S4.1 20 v2.toNatClampNeg) = f3 → ∀ x5 : Int32, x5 = v2 + (1 : Int32) → rec v1 x5) ∧ ((S4.1 20 v2.toNatClampNeg) = f3 → ∀ x6 : Int32, x6 = v1 + (1 : Int32) → ∀ x7 : Int32, x7 = v2 + (1 : Int32) → rec x6 x7)))))) (X1_holdsOf_L4 S4 f3 kx n)
def w_X1_holdsOf (S0 : St) (p1 : Int32) (Q : Int32 → Prop) : Prop :=
  (∃ n : Nat, X1_holdsOf_L4 S0 p1 (fun (v9 : Int32) => Q v9) n (0 : Int32) (0 : Int32))
set_option maxRecDepth 100000 in
set_option maxHeartbeats 4000000 in
theorem l_X1_holdsOf_L4 {Z : Zt} {e : GE} {S4 : St} {f3 : Int32} {kx : Int32 → Prop} (hk : ∀ (v8 : Int32), kx v8 → MW Z e cX1_holdsOf 4 RX1 1 31 [(2, .int v8)] [] S4) : ∀ (n : Nat) (v1 : Int32) (v2 : Int32), X1_holdsOf_L4 S4 f3 kx n v1 v2 → MW Z e cX1_holdsOf 4 RX1 1 4 [(0, .ref (e.2.2.1 18)), (1, .int f3), (2, .int v1), (3, .int v2)] [] S4 := by
  intro n
  induction n with
  | zero =>
    intro v1 v2 h
    exact h.elim
  | succ n ih =>
    intro v1 v2 h
    rw [X1_holdsOf_L4] at h
    refine m_iload_n dX1_holdsOf_4 3 rfl rfl ?_
    refine m_aload_n dX1_holdsOf_5 0 rfl rfl ?_
    refine m_get 18 0 (o_18 e _) rfl inlX1 (by decide) q4_9 rfl dX1_holdsOf_6 ?_
    refine m_icmp_ge (tgt := 31) dX1_holdsOf_9 (by decide) (fun z => ?_) (fun z => ?_)
    · replace h := h.1 z
      refine m_loc [2] rfl ?_
      exact hk v1 h
    · replace h := h.2 z
      refine m_aload_n dX1_holdsOf_12 0 rfl rfl ?_
      refine m_get 18 2 (o_18 e _) rfl inlX1 (by decide) q4_11 rfl dX1_holdsOf_13 ?_
      refine m_iload_n dX1_holdsOf_16 3 rfl rfl ?_
      refine m_iald 20 (a_20 e _) h.1 dX1_holdsOf_17 ?_
      replace h := h.2
      refine m_iload_n dX1_holdsOf_18 1 rfl rfl ?_
      refine m_icmp_ne (tgt := 25) dX1_holdsOf_19 (by decide) (fun z => ?_) (fun z => ?_)
      · replace h := h.1 z
        obtain ⟨x5, ex5⟩ : ∃ y : Int32, y = v2 + (1 : Int32) := ⟨_, rfl⟩
        replace h := h x5 ex5
        refine m_iinc (v := x5) (lv2 := [(3, .int x5), (0, .ref (e.2.2.1 18)), (1, .int f3), (2, .int v1)]) dX1_holdsOf_25 3 rfl ex5.symm (by decide) rfl ?_
        refine m_goto (tgt := 4) dX1_holdsOf_28 (by decide) ?_
        refine m_loc [1, 2, 3, 0] rfl ?_
        exact ih v1 x5 h
      · replace h := h.2 z
        obtain ⟨x6, ex6⟩ : ∃ y : Int32, y = v1 + (1 : Int32) := ⟨_, rfl⟩
        replace h := h x6 ex6
        refine m_iinc (v := x6) (lv2 := [(2, .int x6), (0, .ref (e.2.2.1 18)), (1, .int f3), (3, .int v2)]) dX1_holdsOf_22 2 rfl ex6.symm (by decide) rfl ?_
        obtain ⟨x7, ex7⟩ : ∃ y : Int32, y = v2 + (1 : Int32) := ⟨_, rfl⟩
        replace h := h x7 ex7
        refine m_iinc (v := x7) (lv2 := [(3, .int x7), (2, .int x6), (0, .ref (e.2.2.1 18)), (1, .int f3)]) dX1_holdsOf_25 3 rfl ex7.symm (by decide) rfl ?_
        refine m_goto (tgt := 4) dX1_holdsOf_28 (by decide) ?_
        refine m_loc [2, 3, 1, 0] rfl ?_
        exact ih x6 x7 h
set_option maxRecDepth 100000 in
set_option maxHeartbeats 4000000 in
theorem c_X1_holdsOf {e : GE} {S0 : St} {p1 : Int32} {Q : Int32 → Prop} (h : w_X1_holdsOf S0 p1 Q) : CT e yX1_holdsOf cX1_holdsOf 4 (some .int) 1 [.ref (e.2.2.1 18), .int p1] S0 (pR S0 Q) := by
  refine CT.of (by decide) (Nat.le_of_ble_eq_true rfl) (fun Z hR => ?_)
  rw [w_X1_holdsOf] at h
  show MW Z e cX1_holdsOf 4 RX1 1 0 [(0, .ref (e.2.2.1 18)), (1, .int p1)] [] S0
  refine m_iconst (v := 0) dX1_holdsOf_0 (by decide) ?_
  refine m_istore_n (lv2 := [(2, .int (0 : Int32)), (0, .ref (e.2.2.1 18)), (1, .int p1)]) dX1_holdsOf_1 rfl (by decide) rfl ?_
  refine m_iconst (v := 0) dX1_holdsOf_2 (by decide) ?_
  refine m_istore_n (lv2 := [(3, .int (0 : Int32)), (2, .int (0 : Int32)), (0, .ref (e.2.2.1 18)), (1, .int p1)]) dX1_holdsOf_3 rfl (by decide) rfl ?_
  obtain ⟨n, h⟩ := h
  refine m_loc [2, 3, 1, 0] rfl ?_
  refine l_X1_holdsOf_L4 (fun v9 h => ?_) n (0 : Int32) (0 : Int32) h
  refine m_iload_n dX1_holdsOf_31 0 rfl rfl ?_
  exact m_iret hR ⟨_, rfl, rfl, h⟩ dX1_holdsOf_32
def w_X6_rateOfSpike (S0 : St) (p1 : Int32) (Q : Int32 → St → Prop) : Prop :=
  ∀ S1 : St, S1 = setL S0 0 ((S0.2 0) + (100 : Int64)) → (w_X6_rateOfBar S1 p1  (fun r2 S3 => (w_X1_holdsOf S3 p1  (fun r4 => Q (r2 - r4) S3))))
set_option maxRecDepth 100000 in
set_option maxHeartbeats 4000000 in
theorem c_X6_rateOfSpike {e : GE} {S0 : St} {p1 : Int32} {Q : Int32 → St → Prop} (h : w_X6_rateOfSpike S0 p1 Q) : CT e yX6_rateOfSpike cX6_rateOfSpike 2 (some .int) 2 [.ref (e.2.2.1 0), .int p1] S0 (pI Q) := by
  refine CT.of (by decide) (Nat.le_of_ble_eq_true rfl) (fun Z hR => ?_)
  rw [w_X6_rateOfSpike] at h
  show MW Z e cX6_rateOfSpike 2 RX6 2 0 [(0, .ref (e.2.2.1 0)), (1, .int p1)] [] S0
  refine m_aload_n dX6_rateOfSpike_0 0 rfl rfl ?_
  refine m_dup dX6_rateOfSpike_1 rfl ?_
  refine m_get 0 8 (o_0 e _) rfl inlX6 (by decide) q2_14 rfl dX6_rateOfSpike_2 ?_
  refine m_ldc2 q30_11 dX6_rateOfSpike_5 ?_
  refine m_ladd dX6_rateOfSpike_8 ?_
  refine m_put (S2 := setL S0 0 ((S0.2 0) + (100 : Int64))) 0 8 tyX6 tyX6_ok nmX6 (o_0 e _) rfl inlX6 (by decide) q2_14 rfl (tyX6_ok 8 (by decide)) rfl rfl (Nat.le_of_ble_eq_true rfl) (p_0_8 e _ _) dX6_rateOfSpike_9 (fun S1 eS1 => ?_)
  replace h := h S1 eS1
  refine m_aload_n dX6_rateOfSpike_12 0 rfl rfl ?_
  refine m_iload_n dX6_rateOfSpike_13 1 rfl rfl ?_
  refine m_callV 0 [.int p1] (c_X6_rateOfBar h) (o_0 e _) rfl rfl q29_18 q29_19 q29_20 q1_2 q29_21 t_X6_rateOfBar rfl (by omega) (by decide) (Nat.le_of_ble_eq_true rfl) rfl dX6_rateOfSpike_14 (kI (P := MW Z e cX6_rateOfSpike 2 RX6 2 17 [(0, .ref (e.2.2.1 0)), (1, .int p1)]) (fun r2 S3 h => ?_))
  refine m_aload_n dX6_rateOfSpike_17 0 rfl rfl ?_
  refine m_get 0 3 (o_0 e _) rfl inlX6 (by decide) q2_2 rfl dX6_rateOfSpike_18 ?_
  refine m_iload_n dX6_rateOfSpike_21 1 rfl rfl ?_
  refine m_callV 18 [.int p1] (c_X1_holdsOf h) (o_18 e _) rfl rfl q30_12 q30_13 q30_14 q2_1 q30_15 t_X1_holdsOf rfl (by omega) (by decide) (Nat.le_of_ble_eq_true rfl) rfl dX6_rateOfSpike_22 (kR (P := MW Z e cX6_rateOfSpike 2 RX6 2 25 [(0, .ref (e.2.2.1 0)), (1, .int p1)]) (fun r4 h => ?_))
  refine m_isub dX6_rateOfSpike_25 ?_
  exact m_iret hR ⟨_, rfl, h⟩ dX6_rateOfSpike_26
def w_X6_rateOfGate (S0 : St) (p1 : Int32) (Q : Int32 → St → Prop) : Prop :=
  ∀ S1 : St, S1 = setL S0 0 ((S0.2 0) + (1000 : Int64)) → (w_X6_rateOfRail S1 p1  (fun r2 S3 => Q ((2 : Int32) * r2) S3))
set_option maxRecDepth 100000 in
set_option maxHeartbeats 4000000 in
theorem c_X6_rateOfGate {e : GE} {S0 : St} {p1 : Int32} {Q : Int32 → St → Prop} (h : w_X6_rateOfGate S0 p1 Q) : CT e yX6_rateOfGate cX6_rateOfGate 2 (some .int) 5 [.ref (e.2.2.1 0), .int p1] S0 (pI Q) := by
  refine CT.of (by decide) (Nat.le_of_ble_eq_true rfl) (fun Z hR => ?_)
  rw [w_X6_rateOfGate] at h
  show MW Z e cX6_rateOfGate 2 RX6 5 0 [(0, .ref (e.2.2.1 0)), (1, .int p1)] [] S0
  refine m_aload_n dX6_rateOfGate_0 0 rfl rfl ?_
  refine m_dup dX6_rateOfGate_1 rfl ?_
  refine m_get 0 8 (o_0 e _) rfl inlX6 (by decide) q2_14 rfl dX6_rateOfGate_2 ?_
  refine m_ldc2 q30_20 dX6_rateOfGate_5 ?_
  refine m_ladd dX6_rateOfGate_8 ?_
  refine m_put (S2 := setL S0 0 ((S0.2 0) + (1000 : Int64))) 0 8 tyX6 tyX6_ok nmX6 (o_0 e _) rfl inlX6 (by decide) q2_14 rfl (tyX6_ok 8 (by decide)) rfl rfl (Nat.le_of_ble_eq_true rfl) (p_0_8 e _ _) dX6_rateOfGate_9 (fun S1 eS1 => ?_)
  replace h := h S1 eS1
  refine m_iconst (v := 2) dX6_rateOfGate_12 (by decide) ?_
  refine m_aload_n dX6_rateOfGate_13 0 rfl rfl ?_
  refine m_iload_n dX6_rateOfGate_14 1 rfl rfl ?_
  refine m_callV 0 [.int p1] (c_X6_rateOfRail h) (o_0 e _) rfl rfl q29_22 q29_23 q30_0 q1_2 q30_1 t_X6_rateOfRail rfl (by omega) (by decide) (Nat.le_of_ble_eq_true rfl) rfl dX6_rateOfGate_15 (kI (P := MW Z e cX6_rateOfGate 2 RX6 5 18 [(0, .ref (e.2.2.1 0)), (1, .int p1)]) (fun r2 S3 h => ?_))
  refine m_imul dX6_rateOfGate_18 ?_
  exact m_iret hR ⟨_, rfl, h⟩ dX6_rateOfGate_19
def w_X6_rateOfFinial (S0 : St) (p1 : Int32) (Q : Int32 → St → Prop) : Prop :=
  ∀ S1 : St, S1 = setL S0 0 ((S0.2 0) + (10000 : Int64)) → (w_X6_rateOfSpike S1 p1  (fun r2 S3 => Q (r2 + p1) S3))
set_option maxRecDepth 100000 in
set_option maxHeartbeats 4000000 in
theorem c_X6_rateOfFinial {e : GE} {S0 : St} {p1 : Int32} {Q : Int32 → St → Prop} (h : w_X6_rateOfFinial S0 p1 Q) : CT e yX6_rateOfFinial cX6_rateOfFinial 2 (some .int) 3 [.ref (e.2.2.1 0), .int p1] S0 (pI Q) := by
  refine CT.of (by decide) (Nat.le_of_ble_eq_true rfl) (fun Z hR => ?_)
  rw [w_X6_rateOfFinial] at h
  show MW Z e cX6_rateOfFinial 2 RX6 3 0 [(0, .ref (e.2.2.1 0)), (1, .int p1)] [] S0
  refine m_aload_n dX6_rateOfFinial_0 0 rfl rfl ?_
  refine m_dup dX6_rateOfFinial_1 rfl ?_
  refine m_get 0 8 (o_0 e _) rfl inlX6 (by decide) q2_14 rfl dX6_rateOfFinial_2 ?_
  refine m_ldc2 q31_1 dX6_rateOfFinial_5 ?_
  refine m_ladd dX6_rateOfFinial_8 ?_
  refine m_put (S2 := setL S0 0 ((S0.2 0) + (10000 : Int64))) 0 8 tyX6 tyX6_ok nmX6 (o_0 e _) rfl inlX6 (by decide) q2_14 rfl (tyX6_ok 8 (by decide)) rfl rfl (Nat.le_of_ble_eq_true rfl) (p_0_8 e _ _) dX6_rateOfFinial_9 (fun S1 eS1 => ?_)
  replace h := h S1 eS1
  refine m_aload_n dX6_rateOfFinial_12 0 rfl rfl ?_
  refine m_iload_n dX6_rateOfFinial_13 1 rfl rfl ?_
  refine m_callV 0 [.int p1] (c_X6_rateOfSpike h) (o_0 e _) rfl rfl q30_7 q30_8 q30_9 q1_2 q30_10 t_X6_rateOfSpike rfl (by omega) (by decide) (Nat.le_of_ble_eq_true rfl) rfl dX6_rateOfFinial_14 (kI (P := MW Z e cX6_rateOfFinial 2 RX6 3 17 [(0, .ref (e.2.2.1 0)), (1, .int p1)]) (fun r2 S3 h => ?_))
  refine m_iload_n dX6_rateOfFinial_17 1 rfl rfl ?_
  refine m_iadd dX6_rateOfFinial_18 ?_
  exact m_iret hR ⟨_, rfl, h⟩ dX6_rateOfFinial_19
def w_X6_rateOfNewOne (S0 : St) (p1 : Int32) (Q : Int32 → St → Prop) : Prop :=
  ∀ S1 : St, S1 = setL S0 0 ((S0.2 0) + (100000 : Int64)) → (w_X6_rateOfBar S1 p1  (fun r2 S3 => (w_X6_rustByHolds S3 p1 (9 : Int32)  (fun r4 => Q (r2 + r4) S3))))
set_option maxRecDepth 100000 in
set_option maxHeartbeats 4000000 in
theorem c_X6_rateOfNewOne {e : GE} {S0 : St} {p1 : Int32} {Q : Int32 → St → Prop} (h : w_X6_rateOfNewOne S0 p1 Q) : CT e yX6_rateOfNewOne cX6_rateOfNewOne 2 (some .int) 5 [.ref (e.2.2.1 0), .int p1] S0 (pI Q) := by
  refine CT.of (by decide) (Nat.le_of_ble_eq_true rfl) (fun Z hR => ?_)
  rw [w_X6_rateOfNewOne] at h
  show MW Z e cX6_rateOfNewOne 2 RX6 5 0 [(0, .ref (e.2.2.1 0)), (1, .int p1)] [] S0
  refine m_aload_n dX6_rateOfNewOne_0 0 rfl rfl ?_
  refine m_dup dX6_rateOfNewOne_1 rfl ?_
  refine m_get 0 8 (o_0 e _) rfl inlX6 (by decide) q2_14 rfl dX6_rateOfNewOne_2 ?_
  refine m_ldc2 q31_6 dX6_rateOfNewOne_5 ?_
  refine m_ladd dX6_rateOfNewOne_8 ?_
  refine m_put (S2 := setL S0 0 ((S0.2 0) + (100000 : Int64))) 0 8 tyX6 tyX6_ok nmX6 (o_0 e _) rfl inlX6 (by decide) q2_14 rfl (tyX6_ok 8 (by decide)) rfl rfl (Nat.le_of_ble_eq_true rfl) (p_0_8 e _ _) dX6_rateOfNewOne_9 (fun S1 eS1 => ?_)
  replace h := h S1 eS1
  refine m_aload_n dX6_rateOfNewOne_12 0 rfl rfl ?_
  refine m_iload_n dX6_rateOfNewOne_13 1 rfl rfl ?_
  refine m_callV 0 [.int p1] (c_X6_rateOfBar h) (o_0 e _) rfl rfl q29_18 q29_19 q29_20 q1_2 q29_21 t_X6_rateOfBar rfl (by omega) (by decide) (Nat.le_of_ble_eq_true rfl) rfl dX6_rateOfNewOne_14 (kI (P := MW Z e cX6_rateOfNewOne 2 RX6 5 17 [(0, .ref (e.2.2.1 0)), (1, .int p1)]) (fun r2 S3 h => ?_))
  refine m_aload_n dX6_rateOfNewOne_17 0 rfl rfl ?_
  refine m_iload_n dX6_rateOfNewOne_18 1 rfl rfl ?_
  refine m_bipush (v := 9) dX6_rateOfNewOne_19 (by decide) ?_
  refine m_callV 0 [.int p1, .int (9 : Int32)] (c_X6_rustByHolds h) (o_0 e _) rfl rfl q19_22 q19_23 q20_0 q1_2 q20_1 t_X6_rustByHolds rfl (by omega) (by decide) (Nat.le_of_ble_eq_true rfl) rfl dX6_rateOfNewOne_21 (kR (P := MW Z e cX6_rateOfNewOne 2 RX6 5 24 [(0, .ref (e.2.2.1 0)), (1, .int p1)]) (fun r4 h => ?_))
  refine m_iadd dX6_rateOfNewOne_24 ?_
  exact m_iret hR ⟨_, rfl, h⟩ dX6_rateOfNewOne_25
def w_X6_rate (S0 : St) (p1 : Int32) (p2 : Int32) (Q : Int32 → St → Prop) : Prop :=
  (w_X2_hasBar S0 p2  (fun r1 => ((¬ r1 = 0 → (((p1.toInt < 0 ∨ 5 < p1.toInt) → Q (-1000000 : Int32) S0) ∧ (p1 = nI 0 → (w_X6_rateOfBar S0 p2  (fun r2 S3 => Q r2 S3))) ∧ (p1 = nI 1 → (w_X6_rateOfRail S0 p2  (fun r4 S5 => Q r4 S5))) ∧ (p1 = nI 2 → (w_X6_rateOfSpike S0 p2  (fun r6 S7 => Q r6 S7))) ∧ (p1 = nI 3 → (w_X6_rateOfGate S0 p2  (fun r8 S9 => Q r8 S9))) ∧ (p1 = nI 4 → (w_X6_rateOfFinial S0 p2  (fun r10 S11 => Q r10 S11))) ∧ (p1 = nI 5 → (w_X6_rateOfNewOne S0 p2  (fun r12 S13 => Q r12 S13))))) ∧ (r1 = 0 → Q (-1000000 : Int32) S0))))
set_option maxRecDepth 100000 in
set_option maxHeartbeats 4000000 in
theorem c_X6_rate {e : GE} {S0 : St} {p1 : Int32} {p2 : Int32} {Q : Int32 → St → Prop} (h : w_X6_rate S0 p1 p2 Q) : CT e yX6_rate cX6_rate 3 (some .int) 6 [.ref (e.2.2.1 0), .int p1, .int p2] S0 (pI Q) := by
  refine CT.of (by decide) (Nat.le_of_ble_eq_true rfl) (fun Z hR => ?_)
  rw [w_X6_rate] at h
  show MW Z e cX6_rate 3 RX6 6 0 [(0, .ref (e.2.2.1 0)), (1, .int p1), (2, .int p2)] [] S0
  refine m_aload_n dX6_rate_0 0 rfl rfl ?_
  refine m_get 0 2 (o_0 e _) rfl inlX6 (by decide) q1_22 rfl dX6_rate_1 ?_
  refine m_iload_n dX6_rate_4 2 rfl rfl ?_
  refine m_callV 11 [.int p2] (c_X2_hasBar h) (o_11 e _) rfl rfl q15_20 q15_21 q15_22 q1_21 q15_23 t_X2_hasBar rfl (by omega) (by decide) (Nat.le_of_ble_eq_true rfl) rfl dX6_rate_5 (kR (P := MW Z e cX6_rate 3 RX6 6 8 [(0, .ref (e.2.2.1 0)), (1, .int p1), (2, .int p2)]) (fun r1 h => ?_))
  refine m_if_ne (tgt := 14) dX6_rate_8 (by decide) (fun z => ?_) (fun z => ?_)
  · replace h := h.1 z
    refine m_iload_n dX6_rate_14 1 rfl rfl ?_
    rcases sw_cases p1 5 with hx | ⟨k, hk9, hx⟩
    · refine m_tableOut (tgt := 88) dX6_rate_15 hx (by decide) ?_
      replace h := h.1 hx
      refine m_ldc q29_17 dX6_rate_88 ?_
      exact m_iret hR ⟨_, rfl, h⟩ dX6_rate_90
    · rcases (show k = 0 ∨ k = 1 ∨ k = 2 ∨ k = 3 ∨ k = 4 ∨ k = 5 by omega) with rfl | rfl | rfl | rfl | rfl | rfl
      · refine m_sw (tgt := 52) 0 hx dX6_rate_15 (by decide) (by decide) rfl (by decide) ?_
        replace h := h.2.1 hx
        refine m_aload_n dX6_rate_52 0 rfl rfl ?_
        refine m_iload_n dX6_rate_53 2 rfl rfl ?_
        refine m_callV 0 [.int p2] (c_X6_rateOfBar h) (o_0 e _) rfl rfl q29_18 q29_19 q29_20 q1_2 q29_21 t_X6_rateOfBar rfl (by omega) (by decide) (Nat.le_of_ble_eq_true rfl) rfl dX6_rate_54 (kI (P := MW Z e cX6_rate 3 RX6 6 57 [(0, .ref (e.2.2.1 0)), (1, .int p1), (2, .int p2)]) (fun r2 S3 h => ?_))
        exact m_iret hR ⟨_, rfl, h⟩ dX6_rate_57
      · refine m_sw (tgt := 58) 1 hx dX6_rate_15 (by decide) (by decide) rfl (by decide) ?_
        replace h := h.2.2.1 hx
        refine m_aload_n dX6_rate_58 0 rfl rfl ?_
        refine m_iload_n dX6_rate_59 2 rfl rfl ?_
        refine m_callV 0 [.int p2] (c_X6_rateOfRail h) (o_0 e _) rfl rfl q29_22 q29_23 q30_0 q1_2 q30_1 t_X6_rateOfRail rfl (by omega) (by decide) (Nat.le_of_ble_eq_true rfl) rfl dX6_rate_60 (kI (P := MW Z e cX6_rate 3 RX6 6 63 [(0, .ref (e.2.2.1 0)), (1, .int p1), (2, .int p2)]) (fun r4 S5 h => ?_))
        exact m_iret hR ⟨_, rfl, h⟩ dX6_rate_63
      · refine m_sw (tgt := 64) 2 hx dX6_rate_15 (by decide) (by decide) rfl (by decide) ?_
        replace h := h.2.2.2.1 hx
        refine m_aload_n dX6_rate_64 0 rfl rfl ?_
        refine m_iload_n dX6_rate_65 2 rfl rfl ?_
        refine m_callV 0 [.int p2] (c_X6_rateOfSpike h) (o_0 e _) rfl rfl q30_7 q30_8 q30_9 q1_2 q30_10 t_X6_rateOfSpike rfl (by omega) (by decide) (Nat.le_of_ble_eq_true rfl) rfl dX6_rate_66 (kI (P := MW Z e cX6_rate 3 RX6 6 69 [(0, .ref (e.2.2.1 0)), (1, .int p1), (2, .int p2)]) (fun r6 S7 h => ?_))
        exact m_iret hR ⟨_, rfl, h⟩ dX6_rate_69
      · refine m_sw (tgt := 70) 3 hx dX6_rate_15 (by decide) (by decide) rfl (by decide) ?_
        replace h := h.2.2.2.2.1 hx
        refine m_aload_n dX6_rate_70 0 rfl rfl ?_
        refine m_iload_n dX6_rate_71 2 rfl rfl ?_
        refine m_callV 0 [.int p2] (c_X6_rateOfGate h) (o_0 e _) rfl rfl q30_16 q30_17 q30_18 q1_2 q30_19 t_X6_rateOfGate rfl (by omega) (by decide) (Nat.le_of_ble_eq_true rfl) rfl dX6_rate_72 (kI (P := MW Z e cX6_rate 3 RX6 6 75 [(0, .ref (e.2.2.1 0)), (1, .int p1), (2, .int p2)]) (fun r8 S9 h => ?_))
        exact m_iret hR ⟨_, rfl, h⟩ dX6_rate_75
      · refine m_sw (tgt := 76) 4 hx dX6_rate_15 (by decide) (by decide) rfl (by decide) ?_
        replace h := h.2.2.2.2.2.1 hx
        refine m_aload_n dX6_rate_76 0 rfl rfl ?_
        refine m_iload_n dX6_rate_77 2 rfl rfl ?_
        refine m_callV 0 [.int p2] (c_X6_rateOfFinial h) (o_0 e _) rfl rfl q30_21 q30_22 q30_23 q1_2 q31_0 t_X6_rateOfFinial rfl (by omega) (by decide) (Nat.le_of_ble_eq_true rfl) rfl dX6_rate_78 (kI (P := MW Z e cX6_rate 3 RX6 6 81 [(0, .ref (e.2.2.1 0)), (1, .int p1), (2, .int p2)]) (fun r10 S11 h => ?_))
        exact m_iret hR ⟨_, rfl, h⟩ dX6_rate_81
      · refine m_sw (tgt := 82) 5 hx dX6_rate_15 (by decide) (by decide) rfl (by decide) ?_
        replace h := h.2.2.2.2.2.2 hx
        refine m_aload_n dX6_rate_82 0 rfl rfl ?_
        refine m_iload_n dX6_rate_83 2 rfl rfl ?_
        refine m_callV 0 [.int p2] (c_X6_rateOfNewOne h) (o_0 e _) rfl rfl q31_2 q31_3 q31_4 q1_2 q31_5 t_X6_rateOfNewOne rfl (by omega) (by decide) (Nat.le_of_ble_eq_true rfl) rfl dX6_rate_84 (kI (P := MW Z e cX6_rate 3 RX6 6 87 [(0, .ref (e.2.2.1 0)), (1, .int p1), (2, .int p2)]) (fun r12 S13 h => ?_))
        exact m_iret hR ⟨_, rfl, h⟩ dX6_rate_87
  · replace h := h.2 z
    refine m_ldc q29_17 dX6_rate_11 ?_
    exact m_iret hR ⟨_, rfl, h⟩ dX6_rate_13
def w_X1_become_k0 (S0 : St)  (Q : St → Prop) : Prop :=
  ∀ S1 : St, S1 = setI S0 2600 (S0.1 1900 0) → (∀ S2 : St, S2 = setA S1 26 (S1.1 19) → (∀ S3 : St, S3 = setA S2 27 (S2.1 20) → (∀ S4 : St, S4 = setA S3 28 (S3.1 21) → (∀ S5 : St, S5 = setA S4 29 (S4.1 22) → (∀ S6 : St, S6 = setA S5 30 (S5.1 23) → Q S6)))))
set_option maxRecDepth 100000 in
set_option maxHeartbeats 4000000 in
theorem c_X1_become_k0 {e : GE} {S0 : St}  {Q : St → Prop} (h : w_X1_become_k0 S0  Q) : CT e yX1_become cX1_become 2 none 3 [.ref (e.2.2.1 25), .ref (e.2.2.1 18)] S0 (pV Q) := by
  refine CT.of (by decide) (Nat.le_of_ble_eq_true rfl) (fun Z hR => ?_)
  rw [w_X1_become_k0] at h
  show MW Z e cX1_become 2 RX1 3 0 [(0, .ref (e.2.2.1 25)), (1, .ref (e.2.2.1 18))] [] S0
  refine m_aload_n dX1_become_0 0 rfl rfl ?_
  refine m_aload_n dX1_become_1 1 rfl rfl ?_
  refine m_get 18 0 (o_18 e _) rfl inlX1 (by decide) q4_9 rfl dX1_become_2 ?_
  refine m_put (S2 := setI S0 2600 (S0.1 1900 0)) 25 0 tyX1 tyX1_ok nmX1 (o_25 e _) rfl inlX1 (by decide) q4_9 rfl (tyX1_ok 0 (by decide)) rfl rfl (Nat.le_of_ble_eq_true rfl) (p_25_0 e _ _) dX1_become_5 (fun S1 eS1 => ?_)
  replace h := h S1 eS1
  refine m_aload_n dX1_become_8 1 rfl rfl ?_
  refine m_get 18 1 (o_18 e _) rfl inlX1 (by decide) q4_10 rfl dX1_become_9 ?_
  refine m_iconst (v := 0) dX1_become_12 (by decide) ?_
  refine m_aload_n dX1_become_13 0 rfl rfl ?_
  refine m_get 25 1 (o_25 e _) rfl inlX1 (by decide) q4_10 rfl dX1_become_14 ?_
  refine m_iconst (v := 0) dX1_become_17 (by decide) ?_
  refine m_bipush (v := 12) dX1_become_18 (by decide) ?_
  refine m_copy (S2 := setA S1 26 (S1.1 19)) 19 26 q32_2 q15_4 q15_5 q15_6 (a_19 e _) (a_26 e _) (by decide) (by decide) (by decide) (aw_26 e _ _) (by omega) (Nat.le_of_ble_eq_true rfl) dX1_become_20 (fun S2 eS2 => ?_)
  replace h := h S2 eS2
  refine m_aload_n dX1_become_23 1 rfl rfl ?_
  refine m_get 18 2 (o_18 e _) rfl inlX1 (by decide) q4_11 rfl dX1_become_24 ?_
  refine m_iconst (v := 0) dX1_become_27 (by decide) ?_
  refine m_aload_n dX1_become_28 0 rfl rfl ?_
  refine m_get 25 2 (o_25 e _) rfl inlX1 (by decide) q4_11 rfl dX1_become_29 ?_
  refine m_iconst (v := 0) dX1_become_32 (by decide) ?_
  refine m_bipush (v := 12) dX1_become_33 (by decide) ?_
  refine m_copy (S2 := setA S2 27 (S2.1 20)) 20 27 q32_2 q15_4 q15_5 q15_6 (a_20 e _) (a_27 e _) (by decide) (by decide) (by decide) (aw_27 e _ _) (by omega) (Nat.le_of_ble_eq_true rfl) dX1_become_35 (fun S3 eS3 => ?_)
  replace h := h S3 eS3
  refine m_aload_n dX1_become_38 1 rfl rfl ?_
  refine m_get 18 3 (o_18 e _) rfl inlX1 (by decide) q4_12 rfl dX1_become_39 ?_
  refine m_iconst (v := 0) dX1_become_42 (by decide) ?_
  refine m_aload_n dX1_become_43 0 rfl rfl ?_
  refine m_get 25 3 (o_25 e _) rfl inlX1 (by decide) q4_12 rfl dX1_become_44 ?_
  refine m_iconst (v := 0) dX1_become_47 (by decide) ?_
  refine m_bipush (v := 12) dX1_become_48 (by decide) ?_
  refine m_copy (S2 := setA S3 28 (S3.1 21)) 21 28 q32_2 q15_4 q15_5 q15_6 (a_21 e _) (a_28 e _) (by decide) (by decide) (by decide) (aw_28 e _ _) (by omega) (Nat.le_of_ble_eq_true rfl) dX1_become_50 (fun S4 eS4 => ?_)
  replace h := h S4 eS4
  refine m_aload_n dX1_become_53 1 rfl rfl ?_
  refine m_get 18 4 (o_18 e _) rfl inlX1 (by decide) q4_13 rfl dX1_become_54 ?_
  refine m_iconst (v := 0) dX1_become_57 (by decide) ?_
  refine m_aload_n dX1_become_58 0 rfl rfl ?_
  refine m_get 25 4 (o_25 e _) rfl inlX1 (by decide) q4_13 rfl dX1_become_59 ?_
  refine m_iconst (v := 0) dX1_become_62 (by decide) ?_
  refine m_bipush (v := 12) dX1_become_63 (by decide) ?_
  refine m_copy (S2 := setA S4 29 (S4.1 22)) 22 29 q32_2 q15_4 q15_5 q15_6 (a_22 e _) (a_29 e _) (by decide) (by decide) (by decide) (aw_29 e _ _) (by omega) (Nat.le_of_ble_eq_true rfl) dX1_become_65 (fun S5 eS5 => ?_)
  replace h := h S5 eS5
  refine m_aload_n dX1_become_68 1 rfl rfl ?_
  refine m_get 18 5 (o_18 e _) rfl inlX1 (by decide) q4_14 rfl dX1_become_69 ?_
  refine m_iconst (v := 0) dX1_become_72 (by decide) ?_
  refine m_aload_n dX1_become_73 0 rfl rfl ?_
  refine m_get 25 5 (o_25 e _) rfl inlX1 (by decide) q4_14 rfl dX1_become_74 ?_
  refine m_iconst (v := 0) dX1_become_77 (by decide) ?_
  refine m_bipush (v := 6) dX1_become_78 (by decide) ?_
  refine m_copy (S2 := setA S5 30 (S5.1 23)) 23 30 q32_2 q15_4 q15_5 q15_6 (a_23 e _) (a_30 e _) (by decide) (by decide) (by decide) (aw_30 e _ _) (by omega) (Nat.le_of_ble_eq_true rfl) dX1_become_80 (fun S6 eS6 => ?_)
  replace h := h S6 eS6
  exact m_vret hR ⟨rfl, h⟩ dX1_become_83
def w_X1_become_k1 (S0 : St)  (Q : St → Prop) : Prop :=
  ∀ S1 : St, S1 = setI S0 3200 (S0.1 1900 0) → (∀ S2 : St, S2 = setA S1 32 (S1.1 19) → (∀ S3 : St, S3 = setA S2 33 (S2.1 20) → (∀ S4 : St, S4 = setA S3 34 (S3.1 21) → (∀ S5 : St, S5 = setA S4 35 (S4.1 22) → (∀ S6 : St, S6 = setA S5 36 (S5.1 23) → Q S6)))))
set_option maxRecDepth 100000 in
set_option maxHeartbeats 4000000 in
theorem c_X1_become_k1 {e : GE} {S0 : St}  {Q : St → Prop} (h : w_X1_become_k1 S0  Q) : CT e yX1_become cX1_become 2 none 3 [.ref (e.2.2.1 31), .ref (e.2.2.1 18)] S0 (pV Q) := by
  refine CT.of (by decide) (Nat.le_of_ble_eq_true rfl) (fun Z hR => ?_)
  rw [w_X1_become_k1] at h
  show MW Z e cX1_become 2 RX1 3 0 [(0, .ref (e.2.2.1 31)), (1, .ref (e.2.2.1 18))] [] S0
  refine m_aload_n dX1_become_0 0 rfl rfl ?_
  refine m_aload_n dX1_become_1 1 rfl rfl ?_
  refine m_get 18 0 (o_18 e _) rfl inlX1 (by decide) q4_9 rfl dX1_become_2 ?_
  refine m_put (S2 := setI S0 3200 (S0.1 1900 0)) 31 0 tyX1 tyX1_ok nmX1 (o_31 e _) rfl inlX1 (by decide) q4_9 rfl (tyX1_ok 0 (by decide)) rfl rfl (Nat.le_of_ble_eq_true rfl) (p_31_0 e _ _) dX1_become_5 (fun S1 eS1 => ?_)
  replace h := h S1 eS1
  refine m_aload_n dX1_become_8 1 rfl rfl ?_
  refine m_get 18 1 (o_18 e _) rfl inlX1 (by decide) q4_10 rfl dX1_become_9 ?_
  refine m_iconst (v := 0) dX1_become_12 (by decide) ?_
  refine m_aload_n dX1_become_13 0 rfl rfl ?_
  refine m_get 31 1 (o_31 e _) rfl inlX1 (by decide) q4_10 rfl dX1_become_14 ?_
  refine m_iconst (v := 0) dX1_become_17 (by decide) ?_
  refine m_bipush (v := 12) dX1_become_18 (by decide) ?_
  refine m_copy (S2 := setA S1 32 (S1.1 19)) 19 32 q32_2 q15_4 q15_5 q15_6 (a_19 e _) (a_32 e _) (by decide) (by decide) (by decide) (aw_32 e _ _) (by omega) (Nat.le_of_ble_eq_true rfl) dX1_become_20 (fun S2 eS2 => ?_)
  replace h := h S2 eS2
  refine m_aload_n dX1_become_23 1 rfl rfl ?_
  refine m_get 18 2 (o_18 e _) rfl inlX1 (by decide) q4_11 rfl dX1_become_24 ?_
  refine m_iconst (v := 0) dX1_become_27 (by decide) ?_
  refine m_aload_n dX1_become_28 0 rfl rfl ?_
  refine m_get 31 2 (o_31 e _) rfl inlX1 (by decide) q4_11 rfl dX1_become_29 ?_
  refine m_iconst (v := 0) dX1_become_32 (by decide) ?_
  refine m_bipush (v := 12) dX1_become_33 (by decide) ?_
  refine m_copy (S2 := setA S2 33 (S2.1 20)) 20 33 q32_2 q15_4 q15_5 q15_6 (a_20 e _) (a_33 e _) (by decide) (by decide) (by decide) (aw_33 e _ _) (by omega) (Nat.le_of_ble_eq_true rfl) dX1_become_35 (fun S3 eS3 => ?_)
  replace h := h S3 eS3
  refine m_aload_n dX1_become_38 1 rfl rfl ?_
  refine m_get 18 3 (o_18 e _) rfl inlX1 (by decide) q4_12 rfl dX1_become_39 ?_
  refine m_iconst (v := 0) dX1_become_42 (by decide) ?_
  refine m_aload_n dX1_become_43 0 rfl rfl ?_
  refine m_get 31 3 (o_31 e _) rfl inlX1 (by decide) q4_12 rfl dX1_become_44 ?_
  refine m_iconst (v := 0) dX1_become_47 (by decide) ?_
  refine m_bipush (v := 12) dX1_become_48 (by decide) ?_
  refine m_copy (S2 := setA S3 34 (S3.1 21)) 21 34 q32_2 q15_4 q15_5 q15_6 (a_21 e _) (a_34 e _) (by decide) (by decide) (by decide) (aw_34 e _ _) (by omega) (Nat.le_of_ble_eq_true rfl) dX1_become_50 (fun S4 eS4 => ?_)
  replace h := h S4 eS4
  refine m_aload_n dX1_become_53 1 rfl rfl ?_
  refine m_get 18 4 (o_18 e _) rfl inlX1 (by decide) q4_13 rfl dX1_become_54 ?_
  refine m_iconst (v := 0) dX1_become_57 (by decide) ?_
  refine m_aload_n dX1_become_58 0 rfl rfl ?_
  refine m_get 31 4 (o_31 e _) rfl inlX1 (by decide) q4_13 rfl dX1_become_59 ?_
  refine m_iconst (v := 0) dX1_become_62 (by decide) ?_
  refine m_bipush (v := 12) dX1_become_63 (by decide) ?_
  refine m_copy (S2 := setA S4 35 (S4.1 22)) 22 35 q32_2 q15_4 q15_5 q15_6 (a_22 e _) (a_35 e _) (by decide) (by decide) (by decide) (aw_35 e _ _) (by omega) (Nat.le_of_ble_eq_true rfl) dX1_become_65 (fun S5 eS5 => ?_)
  replace h := h S5 eS5
  refine m_aload_n dX1_become_68 1 rfl rfl ?_
  refine m_get 18 5 (o_18 e _) rfl inlX1 (by decide) q4_14 rfl dX1_become_69 ?_
  refine m_iconst (v := 0) dX1_become_72 (by decide) ?_
  refine m_aload_n dX1_become_73 0 rfl rfl ?_
  refine m_get 31 5 (o_31 e _) rfl inlX1 (by decide) q4_14 rfl dX1_become_74 ?_
  refine m_iconst (v := 0) dX1_become_77 (by decide) ?_
  refine m_bipush (v := 6) dX1_become_78 (by decide) ?_
  refine m_copy (S2 := setA S5 36 (S5.1 23)) 23 36 q32_2 q15_4 q15_5 q15_6 (a_23 e _) (a_36 e _) (by decide) (by decide) (by decide) (aw_36 e _ _) (by omega) (Nat.le_of_ble_eq_true rfl) dX1_become_80 (fun S6 eS6 => ?_)
  replace h := h S6 eS6
  exact m_vret hR ⟨rfl, h⟩ dX1_become_83
def w_X6_keep (S0 : St) (p1 : Int32) (Q : Int32 → St → Prop) : Prop :=
  (w_X6_within p1 (0 : Int32) (1 : Int32)  (fun r1 => ((¬ r1 = 0 → (vp_in p1 2 ∧ (p1 = nI 0 → (w_X1_become_k0 S0  (fun S2 => (vp_in p1 2 ∧ ∀ S3 : St, S3 = setA S2 37 (upd (S2.1 37) p1.toNatClampNeg (vp_nar .boolean (1 : Int32))) → Q (S3.1 1900 0) S3)))) ∧ (p1 = nI 1 → (w_X1_become_k1 S0  (fun S4 => (vp_in p1 2 ∧ ∀ S5 : St, S5 = setA S4 37 (upd (S4.1 37) p1.toNatClampNeg (vp_nar .boolean (1 : Int32))) → Q (S5.1 1900 0) S5)))))) ∧ (r1 = 0 → Q (-1 : Int32) S0))))
set_option maxRecDepth 100000 in
set_option maxHeartbeats 4000000 in
theorem c_X6_keep {e : GE} {S0 : St} {p1 : Int32} {Q : Int32 → St → Prop} (h : w_X6_keep S0 p1 Q) : CT e yX6_keep cX6_keep 2 (some .int) 4 [.ref (e.2.2.1 0), .int p1] S0 (pI Q) := by
  refine CT.of (by decide) (Nat.le_of_ble_eq_true rfl) (fun Z hR => ?_)
  rw [w_X6_keep] at h
  show MW Z e cX6_keep 2 RX6 4 0 [(0, .ref (e.2.2.1 0)), (1, .int p1)] [] S0
  refine m_iload_n dX6_keep_0 1 rfl rfl ?_
  refine m_iconst (v := 0) dX6_keep_1 (by decide) ?_
  refine m_iconst (v := 1) dX6_keep_2 (by decide) ?_
  refine m_callS [.int p1, .int (0 : Int32), .int (1 : Int32)] (c_X6_within h) q8_19 q8_20 q1_2 q8_21 t_X6_within rfl (by omega) (by decide) (Nat.le_of_ble_eq_true rfl) rfl dX6_keep_3 (kR (P := MW Z e cX6_keep 2 RX6 4 6 [(0, .ref (e.2.2.1 0)), (1, .int p1)]) (fun r1 h => ?_))
  refine m_if_ne (tgt := 11) dX6_keep_6 (by decide) (fun z => ?_) (fun z => ?_)
  · replace h := h.1 z
    refine m_aload_n dX6_keep_11 0 rfl rfl ?_
    refine m_get 0 4 (o_0 e _) rfl inlX6 (by decide) q2_3 rfl dX6_keep_12 ?_
    refine m_iload_n dX6_keep_15 1 rfl rfl ?_
    rcases im_cases h.1 with hx | hx
    · refine m_aald (a := e.2.2.1 25) 24 (a_24 e _) h.1 (by rw [hx]; rfl) dX6_keep_16 ?_
      replace h := h.2.1 hx
      refine m_aload_n dX6_keep_17 0 rfl rfl ?_
      refine m_get 0 3 (o_0 e _) rfl inlX6 (by decide) q2_2 rfl dX6_keep_18 ?_
      refine m_callV 25 [.ref (e.2.2.1 18)] (c_X1_become_k0 h) (o_25 e _) rfl rfl q31_22 q31_23 q32_0 q2_1 q32_1 t_X1_become rfl (by omega) (by decide) (Nat.le_of_ble_eq_true rfl) rfl dX6_keep_21 (kV (P := MW Z e cX6_keep 2 RX6 4 24 [(0, .ref (e.2.2.1 0)), (1, .int p1)]) (fun S2 h => ?_))
      refine m_aload_n dX6_keep_24 0 rfl rfl ?_
      refine m_get 0 5 (o_0 e _) rfl inlX6 (by decide) q2_5 rfl dX6_keep_25 ?_
      refine m_iload_n dX6_keep_28 1 rfl rfl ?_
      refine m_iconst (v := 1) dX6_keep_29 (by decide) ?_
      refine m_zast 37 (a_37 e _) (aw_37 e _) h.1 dX6_keep_30 (fun S3 eS3 => ?_)
      replace h := h.2 S3 eS3
      refine m_aload_n dX6_keep_31 0 rfl rfl ?_
      refine m_get 0 3 (o_0 e _) rfl inlX6 (by decide) q2_2 rfl dX6_keep_32 ?_
      refine m_get 18 0 (o_18 e _) rfl inlX1 (by decide) q18_13 rfl dX6_keep_35 ?_
      exact m_iret hR ⟨_, rfl, h⟩ dX6_keep_38
    · refine m_aald (a := e.2.2.1 31) 24 (a_24 e _) h.1 (by rw [hx]; rfl) dX6_keep_16 ?_
      replace h := h.2.2 hx
      refine m_aload_n dX6_keep_17 0 rfl rfl ?_
      refine m_get 0 3 (o_0 e _) rfl inlX6 (by decide) q2_2 rfl dX6_keep_18 ?_
      refine m_callV 31 [.ref (e.2.2.1 18)] (c_X1_become_k1 h) (o_31 e _) rfl rfl q31_22 q31_23 q32_0 q2_1 q32_1 t_X1_become rfl (by omega) (by decide) (Nat.le_of_ble_eq_true rfl) rfl dX6_keep_21 (kV (P := MW Z e cX6_keep 2 RX6 4 24 [(0, .ref (e.2.2.1 0)), (1, .int p1)]) (fun S4 h => ?_))
      refine m_aload_n dX6_keep_24 0 rfl rfl ?_
      refine m_get 0 5 (o_0 e _) rfl inlX6 (by decide) q2_5 rfl dX6_keep_25 ?_
      refine m_iload_n dX6_keep_28 1 rfl rfl ?_
      refine m_iconst (v := 1) dX6_keep_29 (by decide) ?_
      refine m_zast 37 (a_37 e _) (aw_37 e _) h.1 dX6_keep_30 (fun S5 eS5 => ?_)
      replace h := h.2 S5 eS5
      refine m_aload_n dX6_keep_31 0 rfl rfl ?_
      refine m_get 0 3 (o_0 e _) rfl inlX6 (by decide) q2_2 rfl dX6_keep_32 ?_
      refine m_get 18 0 (o_18 e _) rfl inlX1 (by decide) q18_13 rfl dX6_keep_35 ?_
      exact m_iret hR ⟨_, rfl, h⟩ dX6_keep_38
  · replace h := h.2 z
    refine m_iconst (v := -1) dX6_keep_9 (by decide) ?_
    exact m_iret hR ⟨_, rfl, h⟩ dX6_keep_10
def w_X1_become_b0 (S0 : St)  (Q : St → Prop) : Prop :=
  ∀ S1 : St, S1 = setI S0 1900 (S0.1 2600 0) → (∀ S2 : St, S2 = setA S1 19 (S1.1 26) → (∀ S3 : St, S3 = setA S2 20 (S2.1 27) → (∀ S4 : St, S4 = setA S3 21 (S3.1 28) → (∀ S5 : St, S5 = setA S4 22 (S4.1 29) → (∀ S6 : St, S6 = setA S5 23 (S5.1 30) → Q S6)))))
set_option maxRecDepth 100000 in
set_option maxHeartbeats 4000000 in
theorem c_X1_become_b0 {e : GE} {S0 : St}  {Q : St → Prop} (h : w_X1_become_b0 S0  Q) : CT e yX1_become cX1_become 2 none 3 [.ref (e.2.2.1 18), .ref (e.2.2.1 25)] S0 (pV Q) := by
  refine CT.of (by decide) (Nat.le_of_ble_eq_true rfl) (fun Z hR => ?_)
  rw [w_X1_become_b0] at h
  show MW Z e cX1_become 2 RX1 3 0 [(0, .ref (e.2.2.1 18)), (1, .ref (e.2.2.1 25))] [] S0
  refine m_aload_n dX1_become_0 0 rfl rfl ?_
  refine m_aload_n dX1_become_1 1 rfl rfl ?_
  refine m_get 25 0 (o_25 e _) rfl inlX1 (by decide) q4_9 rfl dX1_become_2 ?_
  refine m_put (S2 := setI S0 1900 (S0.1 2600 0)) 18 0 tyX1 tyX1_ok nmX1 (o_18 e _) rfl inlX1 (by decide) q4_9 rfl (tyX1_ok 0 (by decide)) rfl rfl (Nat.le_of_ble_eq_true rfl) (p_18_0 e _ _) dX1_become_5 (fun S1 eS1 => ?_)
  replace h := h S1 eS1
  refine m_aload_n dX1_become_8 1 rfl rfl ?_
  refine m_get 25 1 (o_25 e _) rfl inlX1 (by decide) q4_10 rfl dX1_become_9 ?_
  refine m_iconst (v := 0) dX1_become_12 (by decide) ?_
  refine m_aload_n dX1_become_13 0 rfl rfl ?_
  refine m_get 18 1 (o_18 e _) rfl inlX1 (by decide) q4_10 rfl dX1_become_14 ?_
  refine m_iconst (v := 0) dX1_become_17 (by decide) ?_
  refine m_bipush (v := 12) dX1_become_18 (by decide) ?_
  refine m_copy (S2 := setA S1 19 (S1.1 26)) 26 19 q32_2 q15_4 q15_5 q15_6 (a_26 e _) (a_19 e _) (by decide) (by decide) (by decide) (aw_19 e _ _) (by omega) (Nat.le_of_ble_eq_true rfl) dX1_become_20 (fun S2 eS2 => ?_)
  replace h := h S2 eS2
  refine m_aload_n dX1_become_23 1 rfl rfl ?_
  refine m_get 25 2 (o_25 e _) rfl inlX1 (by decide) q4_11 rfl dX1_become_24 ?_
  refine m_iconst (v := 0) dX1_become_27 (by decide) ?_
  refine m_aload_n dX1_become_28 0 rfl rfl ?_
  refine m_get 18 2 (o_18 e _) rfl inlX1 (by decide) q4_11 rfl dX1_become_29 ?_
  refine m_iconst (v := 0) dX1_become_32 (by decide) ?_
  refine m_bipush (v := 12) dX1_become_33 (by decide) ?_
  refine m_copy (S2 := setA S2 20 (S2.1 27)) 27 20 q32_2 q15_4 q15_5 q15_6 (a_27 e _) (a_20 e _) (by decide) (by decide) (by decide) (aw_20 e _ _) (by omega) (Nat.le_of_ble_eq_true rfl) dX1_become_35 (fun S3 eS3 => ?_)
  replace h := h S3 eS3
  refine m_aload_n dX1_become_38 1 rfl rfl ?_
  refine m_get 25 3 (o_25 e _) rfl inlX1 (by decide) q4_12 rfl dX1_become_39 ?_
  refine m_iconst (v := 0) dX1_become_42 (by decide) ?_
  refine m_aload_n dX1_become_43 0 rfl rfl ?_
  refine m_get 18 3 (o_18 e _) rfl inlX1 (by decide) q4_12 rfl dX1_become_44 ?_
  refine m_iconst (v := 0) dX1_become_47 (by decide) ?_
  refine m_bipush (v := 12) dX1_become_48 (by decide) ?_
  refine m_copy (S2 := setA S3 21 (S3.1 28)) 28 21 q32_2 q15_4 q15_5 q15_6 (a_28 e _) (a_21 e _) (by decide) (by decide) (by decide) (aw_21 e _ _) (by omega) (Nat.le_of_ble_eq_true rfl) dX1_become_50 (fun S4 eS4 => ?_)
  replace h := h S4 eS4
  refine m_aload_n dX1_become_53 1 rfl rfl ?_
  refine m_get 25 4 (o_25 e _) rfl inlX1 (by decide) q4_13 rfl dX1_become_54 ?_
  refine m_iconst (v := 0) dX1_become_57 (by decide) ?_
  refine m_aload_n dX1_become_58 0 rfl rfl ?_
  refine m_get 18 4 (o_18 e _) rfl inlX1 (by decide) q4_13 rfl dX1_become_59 ?_
  refine m_iconst (v := 0) dX1_become_62 (by decide) ?_
  refine m_bipush (v := 12) dX1_become_63 (by decide) ?_
  refine m_copy (S2 := setA S4 22 (S4.1 29)) 29 22 q32_2 q15_4 q15_5 q15_6 (a_29 e _) (a_22 e _) (by decide) (by decide) (by decide) (aw_22 e _ _) (by omega) (Nat.le_of_ble_eq_true rfl) dX1_become_65 (fun S5 eS5 => ?_)
  replace h := h S5 eS5
  refine m_aload_n dX1_become_68 1 rfl rfl ?_
  refine m_get 25 5 (o_25 e _) rfl inlX1 (by decide) q4_14 rfl dX1_become_69 ?_
  refine m_iconst (v := 0) dX1_become_72 (by decide) ?_
  refine m_aload_n dX1_become_73 0 rfl rfl ?_
  refine m_get 18 5 (o_18 e _) rfl inlX1 (by decide) q4_14 rfl dX1_become_74 ?_
  refine m_iconst (v := 0) dX1_become_77 (by decide) ?_
  refine m_bipush (v := 6) dX1_become_78 (by decide) ?_
  refine m_copy (S2 := setA S5 23 (S5.1 30)) 30 23 q32_2 q15_4 q15_5 q15_6 (a_30 e _) (a_23 e _) (by decide) (by decide) (by decide) (aw_23 e _ _) (by omega) (Nat.le_of_ble_eq_true rfl) dX1_become_80 (fun S6 eS6 => ?_)
  replace h := h S6 eS6
  exact m_vret hR ⟨rfl, h⟩ dX1_become_83
def w_X1_become_b1 (S0 : St)  (Q : St → Prop) : Prop :=
  ∀ S1 : St, S1 = setI S0 1900 (S0.1 3200 0) → (∀ S2 : St, S2 = setA S1 19 (S1.1 32) → (∀ S3 : St, S3 = setA S2 20 (S2.1 33) → (∀ S4 : St, S4 = setA S3 21 (S3.1 34) → (∀ S5 : St, S5 = setA S4 22 (S4.1 35) → (∀ S6 : St, S6 = setA S5 23 (S5.1 36) → Q S6)))))
set_option maxRecDepth 100000 in
set_option maxHeartbeats 4000000 in
theorem c_X1_become_b1 {e : GE} {S0 : St}  {Q : St → Prop} (h : w_X1_become_b1 S0  Q) : CT e yX1_become cX1_become 2 none 3 [.ref (e.2.2.1 18), .ref (e.2.2.1 31)] S0 (pV Q) := by
  refine CT.of (by decide) (Nat.le_of_ble_eq_true rfl) (fun Z hR => ?_)
  rw [w_X1_become_b1] at h
  show MW Z e cX1_become 2 RX1 3 0 [(0, .ref (e.2.2.1 18)), (1, .ref (e.2.2.1 31))] [] S0
  refine m_aload_n dX1_become_0 0 rfl rfl ?_
  refine m_aload_n dX1_become_1 1 rfl rfl ?_
  refine m_get 31 0 (o_31 e _) rfl inlX1 (by decide) q4_9 rfl dX1_become_2 ?_
  refine m_put (S2 := setI S0 1900 (S0.1 3200 0)) 18 0 tyX1 tyX1_ok nmX1 (o_18 e _) rfl inlX1 (by decide) q4_9 rfl (tyX1_ok 0 (by decide)) rfl rfl (Nat.le_of_ble_eq_true rfl) (p_18_0 e _ _) dX1_become_5 (fun S1 eS1 => ?_)
  replace h := h S1 eS1
  refine m_aload_n dX1_become_8 1 rfl rfl ?_
  refine m_get 31 1 (o_31 e _) rfl inlX1 (by decide) q4_10 rfl dX1_become_9 ?_
  refine m_iconst (v := 0) dX1_become_12 (by decide) ?_
  refine m_aload_n dX1_become_13 0 rfl rfl ?_
  refine m_get 18 1 (o_18 e _) rfl inlX1 (by decide) q4_10 rfl dX1_become_14 ?_
  refine m_iconst (v := 0) dX1_become_17 (by decide) ?_
  refine m_bipush (v := 12) dX1_become_18 (by decide) ?_
  refine m_copy (S2 := setA S1 19 (S1.1 32)) 32 19 q32_2 q15_4 q15_5 q15_6 (a_32 e _) (a_19 e _) (by decide) (by decide) (by decide) (aw_19 e _ _) (by omega) (Nat.le_of_ble_eq_true rfl) dX1_become_20 (fun S2 eS2 => ?_)
  replace h := h S2 eS2
  refine m_aload_n dX1_become_23 1 rfl rfl ?_
  refine m_get 31 2 (o_31 e _) rfl inlX1 (by decide) q4_11 rfl dX1_become_24 ?_
  refine m_iconst (v := 0) dX1_become_27 (by decide) ?_
  refine m_aload_n dX1_become_28 0 rfl rfl ?_
  refine m_get 18 2 (o_18 e _) rfl inlX1 (by decide) q4_11 rfl dX1_become_29 ?_
  refine m_iconst (v := 0) dX1_become_32 (by decide) ?_
  refine m_bipush (v := 12) dX1_become_33 (by decide) ?_
  refine m_copy (S2 := setA S2 20 (S2.1 33)) 33 20 q32_2 q15_4 q15_5 q15_6 (a_33 e _) (a_20 e _) (by decide) (by decide) (by decide) (aw_20 e _ _) (by omega) (Nat.le_of_ble_eq_true rfl) dX1_become_35 (fun S3 eS3 => ?_)
  replace h := h S3 eS3
  refine m_aload_n dX1_become_38 1 rfl rfl ?_
  refine m_get 31 3 (o_31 e _) rfl inlX1 (by decide) q4_12 rfl dX1_become_39 ?_
  refine m_iconst (v := 0) dX1_become_42 (by decide) ?_
  refine m_aload_n dX1_become_43 0 rfl rfl ?_
  refine m_get 18 3 (o_18 e _) rfl inlX1 (by decide) q4_12 rfl dX1_become_44 ?_
  refine m_iconst (v := 0) dX1_become_47 (by decide) ?_
  refine m_bipush (v := 12) dX1_become_48 (by decide) ?_
  refine m_copy (S2 := setA S3 21 (S3.1 34)) 34 21 q32_2 q15_4 q15_5 q15_6 (a_34 e _) (a_21 e _) (by decide) (by decide) (by decide) (aw_21 e _ _) (by omega) (Nat.le_of_ble_eq_true rfl) dX1_become_50 (fun S4 eS4 => ?_)
  replace h := h S4 eS4
  refine m_aload_n dX1_become_53 1 rfl rfl ?_
  refine m_get 31 4 (o_31 e _) rfl inlX1 (by decide) q4_13 rfl dX1_become_54 ?_
  refine m_iconst (v := 0) dX1_become_57 (by decide) ?_
  refine m_aload_n dX1_become_58 0 rfl rfl ?_
  refine m_get 18 4 (o_18 e _) rfl inlX1 (by decide) q4_13 rfl dX1_become_59 ?_
  refine m_iconst (v := 0) dX1_become_62 (by decide) ?_
  refine m_bipush (v := 12) dX1_become_63 (by decide) ?_
  refine m_copy (S2 := setA S4 22 (S4.1 35)) 35 22 q32_2 q15_4 q15_5 q15_6 (a_35 e _) (a_22 e _) (by decide) (by decide) (by decide) (aw_22 e _ _) (by omega) (Nat.le_of_ble_eq_true rfl) dX1_become_65 (fun S5 eS5 => ?_)
  replace h := h S5 eS5
  refine m_aload_n dX1_become_68 1 rfl rfl ?_
  refine m_get 31 5 (o_31 e _) rfl inlX1 (by decide) q4_14 rfl dX1_become_69 ?_
  refine m_iconst (v := 0) dX1_become_72 (by decide) ?_
  refine m_aload_n dX1_become_73 0 rfl rfl ?_
  refine m_get 18 5 (o_18 e _) rfl inlX1 (by decide) q4_14 rfl dX1_become_74 ?_
  refine m_iconst (v := 0) dX1_become_77 (by decide) ?_
  refine m_bipush (v := 6) dX1_become_78 (by decide) ?_
  refine m_copy (S2 := setA S5 23 (S5.1 36)) 36 23 q32_2 q15_4 q15_5 q15_6 (a_36 e _) (a_23 e _) (by decide) (by decide) (by decide) (aw_23 e _ _) (by omega) (Nat.le_of_ble_eq_true rfl) dX1_become_80 (fun S6 eS6 => ?_)
  replace h := h S6 eS6
  exact m_vret hR ⟨rfl, h⟩ dX1_become_83
def w_X6_back (S0 : St) (p1 : Int32) (Q : Int32 → St → Prop) : Prop :=
  (w_X6_within p1 (0 : Int32) (1 : Int32)  (fun r1 => ((¬ r1 = 0 → (vp_in p1 2 ∧ ((¬ (S0.1 37 p1.toNatClampNeg) = 0 → (vp_in p1 2 ∧ (p1 = nI 0 → (w_X1_become_b0 S0  (fun S2 => Q (S2.1 1900 0) S2))) ∧ (p1 = nI 1 → (w_X1_become_b1 S0  (fun S3 => Q (S3.1 1900 0) S3))))) ∧ ((S0.1 37 p1.toNatClampNeg) = 0 → Q (-2 : Int32) S0)))) ∧ (r1 = 0 → Q (-1 : Int32) S0))))
set_option maxRecDepth 100000 in
set_option maxHeartbeats 4000000 in
theorem c_X6_back {e : GE} {S0 : St} {p1 : Int32} {Q : Int32 → St → Prop} (h : w_X6_back S0 p1 Q) : CT e yX6_back cX6_back 2 (some .int) 4 [.ref (e.2.2.1 0), .int p1] S0 (pI Q) := by
  refine CT.of (by decide) (Nat.le_of_ble_eq_true rfl) (fun Z hR => ?_)
  rw [w_X6_back] at h
  show MW Z e cX6_back 2 RX6 4 0 [(0, .ref (e.2.2.1 0)), (1, .int p1)] [] S0
  refine m_iload_n dX6_back_0 1 rfl rfl ?_
  refine m_iconst (v := 0) dX6_back_1 (by decide) ?_
  refine m_iconst (v := 1) dX6_back_2 (by decide) ?_
  refine m_callS [.int p1, .int (0 : Int32), .int (1 : Int32)] (c_X6_within h) q8_19 q8_20 q1_2 q8_21 t_X6_within rfl (by omega) (by decide) (Nat.le_of_ble_eq_true rfl) rfl dX6_back_3 (kR (P := MW Z e cX6_back 2 RX6 4 6 [(0, .ref (e.2.2.1 0)), (1, .int p1)]) (fun r1 h => ?_))
  refine m_if_ne (tgt := 11) dX6_back_6 (by decide) (fun z => ?_) (fun z => ?_)
  · replace h := h.1 z
    refine m_aload_n dX6_back_11 0 rfl rfl ?_
    refine m_get 0 5 (o_0 e _) rfl inlX6 (by decide) q2_5 rfl dX6_back_12 ?_
    refine m_iload_n dX6_back_15 1 rfl rfl ?_
    refine m_zald 37 (a_37 e _) h.1 dX6_back_16 ?_
    replace h := h.2
    refine m_if_ne (tgt := 23) dX6_back_17 (by decide) (fun z => ?_) (fun z => ?_)
    · replace h := h.1 z
      refine m_aload_n dX6_back_23 0 rfl rfl ?_
      refine m_get 0 3 (o_0 e _) rfl inlX6 (by decide) q2_2 rfl dX6_back_24 ?_
      refine m_aload_n dX6_back_27 0 rfl rfl ?_
      refine m_get 0 4 (o_0 e _) rfl inlX6 (by decide) q2_3 rfl dX6_back_28 ?_
      refine m_iload_n dX6_back_31 1 rfl rfl ?_
      rcases im_cases h.1 with hx | hx
      · refine m_aald (a := e.2.2.1 25) 24 (a_24 e _) h.1 (by rw [hx]; rfl) dX6_back_32 ?_
        replace h := h.2.1 hx
        refine m_callV 18 [.ref (e.2.2.1 25)] (c_X1_become_b0 h) (o_18 e _) rfl rfl q31_22 q31_23 q32_0 q2_1 q32_1 t_X1_become rfl (by omega) (by decide) (Nat.le_of_ble_eq_true rfl) rfl dX6_back_33 (kV (P := MW Z e cX6_back 2 RX6 4 36 [(0, .ref (e.2.2.1 0)), (1, .int p1)]) (fun S2 h => ?_))
        refine m_aload_n dX6_back_36 0 rfl rfl ?_
        refine m_get 0 3 (o_0 e _) rfl inlX6 (by decide) q2_2 rfl dX6_back_37 ?_
        refine m_get 18 0 (o_18 e _) rfl inlX1 (by decide) q18_13 rfl dX6_back_40 ?_
        exact m_iret hR ⟨_, rfl, h⟩ dX6_back_43
      · refine m_aald (a := e.2.2.1 31) 24 (a_24 e _) h.1 (by rw [hx]; rfl) dX6_back_32 ?_
        replace h := h.2.2 hx
        refine m_callV 18 [.ref (e.2.2.1 31)] (c_X1_become_b1 h) (o_18 e _) rfl rfl q31_22 q31_23 q32_0 q2_1 q32_1 t_X1_become rfl (by omega) (by decide) (Nat.le_of_ble_eq_true rfl) rfl dX6_back_33 (kV (P := MW Z e cX6_back 2 RX6 4 36 [(0, .ref (e.2.2.1 0)), (1, .int p1)]) (fun S3 h => ?_))
        refine m_aload_n dX6_back_36 0 rfl rfl ?_
        refine m_get 0 3 (o_0 e _) rfl inlX6 (by decide) q2_2 rfl dX6_back_37 ?_
        refine m_get 18 0 (o_18 e _) rfl inlX1 (by decide) q18_13 rfl dX6_back_40 ?_
        exact m_iret hR ⟨_, rfl, h⟩ dX6_back_43
    · replace h := h.2 z
      refine m_bipush (v := -2) dX6_back_20 (by decide) ?_
      exact m_iret hR ⟨_, rfl, h⟩ dX6_back_22
  · replace h := h.2 z
    refine m_iconst (v := -1) dX6_back_9 (by decide) ?_
    exact m_iret hR ⟨_, rfl, h⟩ dX6_back_10
def X1_sightsTold_L4 (S3 : St) (kx : Int32 → Prop) : Nat → Int32 → Int32 → Prop
  | 0 => fun _ _ => False
  | n + 1 => (fun (rec : Int32 → Int32 → Prop) => fun (v1 : Int32) (v2 : Int32) => (((6 : Int32) ≤ v2 → kx v1) ∧ (¬ (6 : Int32) ≤ v2 → (vp_in v2 6 ∧ (((S3.1 23 v2.toNatClampNeg) = (-9 : Int32) → ∀ x4 : Int32, x4 = v2 + (1 : Int32) → rec v1 x4) ∧ (¬ (S3.1 23 v2.toNatClampNeg) = (-9 : Int32) → ∀ x5 : Int32, x5 = v1 + (1 : Int32) → ∀ x6 : Int32, x6 = v2 + (1 : Int32) → rec x5 x6)))))) (X1_sightsTold_L4 S3 kx n)
def w_X1_sightsTold (S0 : St)  (Q : Int32 → Prop) : Prop :=
  (∃ n : Nat, X1_sightsTold_L4 S0 (fun (v8 : Int32) => Q v8) n (0 : Int32) (0 : Int32))
set_option maxRecDepth 100000 in
set_option maxHeartbeats 4000000 in
theorem l_X1_sightsTold_L4 {Z : Zt} {e : GE} {S3 : St} {kx : Int32 → Prop} (hk : ∀ (v7 : Int32), kx v7 → MW Z e cX1_sightsTold 3 RX1 1 30 [(1, .int v7)] [] S3) : ∀ (n : Nat) (v1 : Int32) (v2 : Int32), X1_sightsTold_L4 S3 kx n v1 v2 → MW Z e cX1_sightsTold 3 RX1 1 4 [(0, .ref (e.2.2.1 18)), (1, .int v1), (2, .int v2)] [] S3 := by
  intro n
  induction n with
  | zero =>
    intro v1 v2 h
    exact h.elim
  | succ n ih =>
    intro v1 v2 h
    rw [X1_sightsTold_L4] at h
    refine m_iload_n dX1_sightsTold_4 2 rfl rfl ?_
    refine m_bipush (v := 6) dX1_sightsTold_5 (by decide) ?_
    refine m_icmp_ge (tgt := 30) dX1_sightsTold_7 (by decide) (fun z => ?_) (fun z => ?_)
    · replace h := h.1 z
      refine m_loc [1] rfl ?_
      exact hk v1 h
    · replace h := h.2 z
      refine m_aload_n dX1_sightsTold_10 0 rfl rfl ?_
      refine m_get 18 5 (o_18 e _) rfl inlX1 (by decide) q4_14 rfl dX1_sightsTold_11 ?_
      refine m_iload_n dX1_sightsTold_14 2 rfl rfl ?_
      refine m_iald 23 (a_23 e _) h.1 dX1_sightsTold_15 ?_
      replace h := h.2
      refine m_bipush (v := -9) dX1_sightsTold_16 (by decide) ?_
      refine m_icmp_eq (tgt := 24) dX1_sightsTold_18 (by decide) (fun z => ?_) (fun z => ?_)
      · replace h := h.1 z
        obtain ⟨x4, ex4⟩ : ∃ y : Int32, y = v2 + (1 : Int32) := ⟨_, rfl⟩
        replace h := h x4 ex4
        refine m_iinc (v := x4) (lv2 := [(2, .int x4), (0, .ref (e.2.2.1 18)), (1, .int v1)]) dX1_sightsTold_24 2 rfl ex4.symm (by decide) rfl ?_
        refine m_goto (tgt := 4) dX1_sightsTold_27 (by decide) ?_
        refine m_loc [1, 2, 0] rfl ?_
        exact ih v1 x4 h
      · replace h := h.2 z
        obtain ⟨x5, ex5⟩ : ∃ y : Int32, y = v1 + (1 : Int32) := ⟨_, rfl⟩
        replace h := h x5 ex5
        refine m_iinc (v := x5) (lv2 := [(1, .int x5), (0, .ref (e.2.2.1 18)), (2, .int v2)]) dX1_sightsTold_21 1 rfl ex5.symm (by decide) rfl ?_
        obtain ⟨x6, ex6⟩ : ∃ y : Int32, y = v2 + (1 : Int32) := ⟨_, rfl⟩
        replace h := h x6 ex6
        refine m_iinc (v := x6) (lv2 := [(2, .int x6), (1, .int x5), (0, .ref (e.2.2.1 18))]) dX1_sightsTold_24 2 rfl ex6.symm (by decide) rfl ?_
        refine m_goto (tgt := 4) dX1_sightsTold_27 (by decide) ?_
        refine m_loc [2, 1, 0] rfl ?_
        exact ih x5 x6 h
set_option maxRecDepth 100000 in
set_option maxHeartbeats 4000000 in
theorem c_X1_sightsTold {e : GE} {S0 : St}  {Q : Int32 → Prop} (h : w_X1_sightsTold S0  Q) : CT e yX1_sightsTold cX1_sightsTold 3 (some .int) 1 [.ref (e.2.2.1 18)] S0 (pR S0 Q) := by
  refine CT.of (by decide) (Nat.le_of_ble_eq_true rfl) (fun Z hR => ?_)
  rw [w_X1_sightsTold] at h
  show MW Z e cX1_sightsTold 3 RX1 1 0 [(0, .ref (e.2.2.1 18))] [] S0
  refine m_iconst (v := 0) dX1_sightsTold_0 (by decide) ?_
  refine m_istore_n (lv2 := [(1, .int (0 : Int32)), (0, .ref (e.2.2.1 18))]) dX1_sightsTold_1 rfl (by decide) rfl ?_
  refine m_iconst (v := 0) dX1_sightsTold_2 (by decide) ?_
  refine m_istore_n (lv2 := [(2, .int (0 : Int32)), (1, .int (0 : Int32)), (0, .ref (e.2.2.1 18))]) dX1_sightsTold_3 rfl (by decide) rfl ?_
  obtain ⟨n, h⟩ := h
  refine m_loc [2, 1, 0] rfl ?_
  refine l_X1_sightsTold_L4 (fun v8 h => ?_) n (0 : Int32) (0 : Int32) h
  refine m_iload_n dX1_sightsTold_30 0 rfl rfl ?_
  exact m_iret hR ⟨_, rfl, rfl, h⟩ dX1_sightsTold_31
def w_X6_count (S0 : St) (p1 : Int32) (Q : Int32 → Prop) : Prop :=
  (((p1.toInt < 0 ∨ 5 < p1.toInt) → Q (-1 : Int32)) ∧ (p1 = nI 0 → Q (S0.1 1200 0)) ∧ (p1 = nI 1 → Q (S0.1 1201 0)) ∧ (p1 = nI 2 → Q (S0.1 1202 0)) ∧ (p1 = nI 3 → Q (S0.1 1900 0)) ∧ (p1 = nI 4 → (w_X1_sightsTold S0  (fun r1 => Q r1))) ∧ (p1 = nI 5 → Q (S0.1 301 0)))
set_option maxRecDepth 100000 in
set_option maxHeartbeats 4000000 in
theorem c_X6_count {e : GE} {S0 : St} {p1 : Int32} {Q : Int32 → Prop} (h : w_X6_count S0 p1 Q) : CT e yX6_count cX6_count 2 (some .int) 2 [.ref (e.2.2.1 0), .int p1] S0 (pR S0 Q) := by
  refine CT.of (by decide) (Nat.le_of_ble_eq_true rfl) (fun Z hR => ?_)
  rw [w_X6_count] at h
  show MW Z e cX6_count 2 RX6 2 0 [(0, .ref (e.2.2.1 0)), (1, .int p1)] [] S0
  refine m_iload_n dX6_count_0 1 rfl rfl ?_
  rcases sw_cases p1 5 with hx | ⟨k, hk9, hx⟩
  · refine m_tableOut (tgt := 88) dX6_count_1 hx (by decide) ?_
    replace h := h.1 hx
    refine m_iconst (v := -1) dX6_count_88 (by decide) ?_
    exact m_iret hR ⟨_, rfl, rfl, h⟩ dX6_count_89
  · rcases (show k = 0 ∨ k = 1 ∨ k = 2 ∨ k = 3 ∨ k = 4 ∨ k = 5 by omega) with rfl | rfl | rfl | rfl | rfl | rfl
    · refine m_sw (tgt := 40) 0 hx dX6_count_1 (by decide) (by decide) rfl (by decide) ?_
      replace h := h.2.1 hx
      refine m_aload_n dX6_count_40 0 rfl rfl ?_
      refine m_get 0 2 (o_0 e _) rfl inlX6 (by decide) q1_22 rfl dX6_count_41 ?_
      refine m_get 11 0 (o_11 e _) rfl inlX2 (by decide) q25_0 rfl dX6_count_44 ?_
      exact m_iret hR ⟨_, rfl, rfl, h⟩ dX6_count_47
    · refine m_sw (tgt := 48) 1 hx dX6_count_1 (by decide) (by decide) rfl (by decide) ?_
      replace h := h.2.2.1 hx
      refine m_aload_n dX6_count_48 0 rfl rfl ?_
      refine m_get 0 2 (o_0 e _) rfl inlX6 (by decide) q1_22 rfl dX6_count_49 ?_
      refine m_get 11 1 (o_11 e _) rfl inlX2 (by decide) q32_19 rfl dX6_count_52 ?_
      exact m_iret hR ⟨_, rfl, rfl, h⟩ dX6_count_55
    · refine m_sw (tgt := 56) 2 hx dX6_count_1 (by decide) (by decide) rfl (by decide) ?_
      replace h := h.2.2.2.1 hx
      refine m_aload_n dX6_count_56 0 rfl rfl ?_
      refine m_get 0 2 (o_0 e _) rfl inlX6 (by decide) q1_22 rfl dX6_count_57 ?_
      refine m_get 11 2 (o_11 e _) rfl inlX2 (by decide) q32_20 rfl dX6_count_60 ?_
      exact m_iret hR ⟨_, rfl, rfl, h⟩ dX6_count_63
    · refine m_sw (tgt := 64) 3 hx dX6_count_1 (by decide) (by decide) rfl (by decide) ?_
      replace h := h.2.2.2.2.1 hx
      refine m_aload_n dX6_count_64 0 rfl rfl ?_
      refine m_get 0 3 (o_0 e _) rfl inlX6 (by decide) q2_2 rfl dX6_count_65 ?_
      refine m_get 18 0 (o_18 e _) rfl inlX1 (by decide) q18_13 rfl dX6_count_68 ?_
      exact m_iret hR ⟨_, rfl, rfl, h⟩ dX6_count_71
    · refine m_sw (tgt := 72) 4 hx dX6_count_1 (by decide) (by decide) rfl (by decide) ?_
      replace h := h.2.2.2.2.2.1 hx
      refine m_aload_n dX6_count_72 0 rfl rfl ?_
      refine m_get 0 3 (o_0 e _) rfl inlX6 (by decide) q2_2 rfl dX6_count_73 ?_
      refine m_callV 18 [] (c_X1_sightsTold h) (o_18 e _) rfl rfl q32_21 q32_22 q32_23 q2_1 q33_0 t_X1_sightsTold rfl (by omega) (by decide) (Nat.le_of_ble_eq_true rfl) rfl dX6_count_76 (kR (P := MW Z e cX6_count 2 RX6 2 79 [(0, .ref (e.2.2.1 0)), (1, .int p1)]) (fun r1 h => ?_))
      exact m_iret hR ⟨_, rfl, rfl, h⟩ dX6_count_79
    · refine m_sw (tgt := 80) 5 hx dX6_count_1 (by decide) (by decide) rfl (by decide) ?_
      replace h := h.2.2.2.2.2.2 hx
      refine m_aload_n dX6_count_80 0 rfl rfl ?_
      refine m_get 0 1 (o_0 e _) rfl inlX6 (by decide) q1_18 rfl dX6_count_81 ?_
      refine m_get 2 1 (o_2 e _) rfl inlX4 (by decide) q8_18 rfl dX6_count_84 ?_
      exact m_iret hR ⟨_, rfl, rfl, h⟩ dX6_count_87
def w_X6_trace (S0 : St)  (Q : Int64 → Prop) : Prop :=
  Q (S0.2 0)
set_option maxRecDepth 100000 in
set_option maxHeartbeats 4000000 in
theorem c_X6_trace {e : GE} {S0 : St}  {Q : Int64 → Prop} (h : w_X6_trace S0  Q) : CT e yX6_trace cX6_trace 1 (some .long) 1 [.ref (e.2.2.1 0)] S0 (pL S0 Q) := by
  refine CT.of (by decide) (Nat.le_of_ble_eq_true rfl) (fun Z hR => ?_)
  rw [w_X6_trace] at h
  show MW Z e cX6_trace 1 RX6 1 0 [(0, .ref (e.2.2.1 0))] [] S0
  refine m_aload_n dX6_trace_0 0 rfl rfl ?_
  refine m_get 0 8 (o_0 e _) rfl inlX6 (by decide) q2_14 rfl dX6_trace_1 ?_
  exact m_lret hR ⟨_, rfl, rfl, h⟩ dX6_trace_4
def w_X7_in (p1 : Int32) (p2 : Int32) (p3 : Int32) (Q : Int32 → Prop) : Prop :=
  ((p1 < p2 → Q (0 : Int32)) ∧ (¬ p1 < p2 → ((p3 < p1 → Q (0 : Int32)) ∧ (¬ p3 < p1 → Q (1 : Int32)))))
set_option maxRecDepth 100000 in
set_option maxHeartbeats 4000000 in
theorem c_X7_in {e : GE} {S0 : St} {p1 : Int32} {p2 : Int32} {p3 : Int32} {Q : Int32 → Prop} (h : w_X7_in p1 p2 p3 Q) : CT e yX7_in cX7_in 3 (some .boolean) 1 [.int p1, .int p2, .int p3] S0 (pR S0 Q) := by
  refine CT.of (by decide) (Nat.le_of_ble_eq_true rfl) (fun Z hR => ?_)
  rw [w_X7_in] at h
  show MW Z e cX7_in 3 RX7 1 0 [(0, .int p1), (1, .int p2), (2, .int p3)] [] S0
  refine m_iload_n dX7_in_0 0 rfl rfl ?_
  refine m_iload_n dX7_in_1 1 rfl rfl ?_
  refine m_icmp_lt (tgt := 14) dX7_in_2 (by decide) (fun z => ?_) (fun z => ?_)
  · replace h := h.1 z
    refine m_iconst (v := 0) dX7_in_14 (by decide) ?_
    exact m_zret hR rfl ⟨_, rfl, rfl, h⟩ dX7_in_15
  · replace h := h.2 z
    refine m_iload_n dX7_in_5 0 rfl rfl ?_
    refine m_iload_n dX7_in_6 2 rfl rfl ?_
    refine m_icmp_gt (tgt := 14) dX7_in_7 (by decide) (fun z => ?_) (fun z => ?_)
    · replace h := h.1 z
      refine m_iconst (v := 0) dX7_in_14 (by decide) ?_
      exact m_zret hR rfl ⟨_, rfl, rfl, h⟩ dX7_in_15
    · replace h := h.2 z
      refine m_iconst (v := 1) dX7_in_10 (by decide) ?_
      refine m_goto (tgt := 15) dX7_in_11 (by decide) ?_
      exact m_zret hR rfl ⟨_, rfl, rfl, h⟩ dX7_in_15
def X7_type_L32 (f5 : Int64) (kx : St → Prop) : Nat → St → Int32 → Prop
  | 0 => fun _ _ => False
  | n + 1 => (fun (rec : St → Int32 → Prop) => fun (S3 : St) (v4 : Int32) => ((v4 < 0 → kx S3) ∧ (¬ v4 < 0 → (vp_in (S3.1 5002 0) 300 ∧ ∀ S6 : St, S6 = setA S3 50 (upd (S3.1 50) (S3.1 5002 0).toNatClampNeg (((f5 >>> (((8 : Int32) * v4).toInt64 &&& 63)) &&& (255 : Int64)).toInt32)) → ∀ S7 : St, S7 = setI S6 5002 ((S6.1 5002 0) + (1 : Int32)) → ∀ x8 : Int32, x8 = v4 + (-1 : Int32) → rec S7 x8)))) (X7_type_L32 f5 kx n)
def w_X7_type (S0 : St) (p1 : Int64) (p2 : Int32) (Q : Int32 → St → Prop) : Prop :=
  (w_X7_in p2 (1 : Int32) (8 : Int32)  (fun r1 => ((¬ r1 = 0 → ((((S0.1 5002 0) + p2) ≤ (300 : Int32) → ∀ x2 : Int32, x2 = p2 - (1 : Int32) → (∃ n : Nat, X7_type_L32 p1 (fun (S10 : St) => Q (S10.1 5002 0) S10) n S0 x2)) ∧ (¬ ((S0.1 5002 0) + p2) ≤ (300 : Int32) → Q (-3 : Int32) S0))) ∧ (r1 = 0 → Q (-1 : Int32) S0))))
set_option maxRecDepth 100000 in
set_option maxHeartbeats 4000000 in
theorem l_X7_type_L32 {Z : Zt} {e : GE} {f5 : Int64} {kx : St → Prop} (hk : ∀ (S9 : St), kx S9 → MW Z e cX7_type 5 RX7 2 74 [(0, .ref (e.2.2.1 49))] [] S9) : ∀ (n : Nat) (S3 : St) (v4 : Int32), X7_type_L32 f5 kx n S3 v4 → MW Z e cX7_type 5 RX7 2 32 [(0, .ref (e.2.2.1 49)), (1, .long f5), (4, .int v4)] [] S3 := by
  intro n
  induction n with
  | zero =>
    intro S3 v4 h
    exact h.elim
  | succ n ih =>
    intro S3 v4 h
    rw [X7_type_L32] at h
    refine m_iload dX7_type_32 2 rfl ?_
    refine m_if_lt (tgt := 74) dX7_type_34 (by decide) (fun z => ?_) (fun z => ?_)
    · replace h := h.1 z
      refine m_loc [0] rfl ?_
      exact hk S3 h
    · replace h := h.2 z
      refine m_aload_n dX7_type_37 0 rfl rfl ?_
      refine m_get 49 1 (o_49 e _) rfl inlX7 (by decide) q5_14 rfl dX7_type_38 ?_
      refine m_aload_n dX7_type_41 0 rfl rfl ?_
      refine m_get 49 2 (o_49 e _) rfl inlX7 (by decide) q6_21 rfl dX7_type_42 ?_
      refine m_lload_n dX7_type_45 1 rfl rfl ?_
      refine m_bipush (v := 8) dX7_type_46 (by decide) ?_
      refine m_iload dX7_type_48 2 rfl ?_
      refine m_imul dX7_type_50 ?_
      refine m_lshr dX7_type_51 ?_
      refine m_ldc2 q9_6 dX7_type_52 ?_
      refine m_land dX7_type_55 ?_
      refine m_l2i dX7_type_56 ?_
      refine m_iast 50 (a_50 e _) (aw_50 e _) h.1 dX7_type_57 (fun S6 eS6 => ?_)
      replace h := h.2 S6 eS6
      refine m_aload_n dX7_type_58 0 rfl rfl ?_
      refine m_dup dX7_type_59 rfl ?_
      refine m_get 49 2 (o_49 e _) rfl inlX7 (by decide) q6_21 rfl dX7_type_60 ?_
      refine m_iconst (v := 1) dX7_type_63 (by decide) ?_
      refine m_iadd dX7_type_64 ?_
      refine m_put (S2 := setI S6 5002 ((S6.1 5002 0) + (1 : Int32))) 49 2 tyX7 tyX7_ok nmX7 (o_49 e _) rfl inlX7 (by decide) q6_21 rfl (tyX7_ok 2 (by decide)) rfl rfl (Nat.le_of_ble_eq_true rfl) (p_49_2 e _ _) dX7_type_65 (fun S7 eS7 => ?_)
      replace h := h S7 eS7
      obtain ⟨x8, ex8⟩ : ∃ y : Int32, y = v4 + (-1 : Int32) := ⟨_, rfl⟩
      replace h := h x8 ex8
      refine m_iinc (v := x8) (lv2 := [(4, .int x8), (0, .ref (e.2.2.1 49)), (1, .long f5)]) dX7_type_68 2 rfl ex8.symm (by decide) rfl ?_
      refine m_goto (tgt := 32) dX7_type_71 (by decide) ?_
      refine m_loc [1, 2, 0] rfl ?_
      exact ih S7 x8 h
set_option maxRecDepth 100000 in
set_option maxHeartbeats 4000000 in
theorem c_X7_type {e : GE} {S0 : St} {p1 : Int64} {p2 : Int32} {Q : Int32 → St → Prop} (h : w_X7_type S0 p1 p2 Q) : CT e yX7_type cX7_type 5 (some .int) 2 [.ref (e.2.2.1 49), .long p1, .int p2] S0 (pI Q) := by
  refine CT.of (by decide) (Nat.le_of_ble_eq_true rfl) (fun Z hR => ?_)
  rw [w_X7_type] at h
  show MW Z e cX7_type 5 RX7 2 0 [(0, .ref (e.2.2.1 49)), (1, .long p1), (3, .int p2)] [] S0
  refine m_iload_n dX7_type_0 2 rfl rfl ?_
  refine m_iconst (v := 1) dX7_type_1 (by decide) ?_
  refine m_bipush (v := 8) dX7_type_2 (by decide) ?_
  refine m_callS [.int p2, .int (1 : Int32), .int (8 : Int32)] (c_X7_in h) q6_8 q6_9 q1_5 q6_10 t_X7_in rfl (by omega) (by decide) (Nat.le_of_ble_eq_true rfl) rfl dX7_type_4 (kR (P := MW Z e cX7_type 5 RX7 2 7 [(0, .ref (e.2.2.1 49)), (1, .long p1), (3, .int p2)]) (fun r1 h => ?_))
  refine m_if_ne (tgt := 12) dX7_type_7 (by decide) (fun z => ?_) (fun z => ?_)
  · replace h := h.1 z
    refine m_aload_n dX7_type_12 0 rfl rfl ?_
    refine m_get 49 2 (o_49 e _) rfl inlX7 (by decide) q6_21 rfl dX7_type_13 ?_
    refine m_iload_n dX7_type_16 2 rfl rfl ?_
    refine m_iadd dX7_type_17 ?_
    refine m_sipush (v := 300) dX7_type_18 (by decide) ?_
    refine m_icmp_le (tgt := 27) dX7_type_21 (by decide) (fun z => ?_) (fun z => ?_)
    · replace h := h.1 z
      refine m_iload_n dX7_type_27 2 rfl rfl ?_
      refine m_iconst (v := 1) dX7_type_28 (by decide) ?_
      refine m_isub dX7_type_29 ?_
      refine m_topi (fun x2 ex2 => ?_)
      replace h := h x2 ex2
      refine m_istore (lv2 := [(4, .int x2), (0, .ref (e.2.2.1 49)), (1, .long p1), (3, .int p2)]) dX7_type_30 (by decide) rfl ?_
      obtain ⟨n, h⟩ := h
      refine m_loc [1, 2, 0] rfl ?_
      refine l_X7_type_L32 (fun S10 h => ?_) n S0 x2 h
      refine m_aload_n dX7_type_74 0 rfl rfl ?_
      refine m_get 49 2 (o_49 e _) rfl inlX7 (by decide) q6_21 rfl dX7_type_75 ?_
      exact m_iret hR ⟨_, rfl, h⟩ dX7_type_78
    · replace h := h.2 z
      refine m_bipush (v := -3) dX7_type_24 (by decide) ?_
      exact m_iret hR ⟨_, rfl, h⟩ dX7_type_26
  · replace h := h.2 z
    refine m_iconst (v := -1) dX7_type_10 (by decide) ?_
    exact m_iret hR ⟨_, rfl, h⟩ dX7_type_11
def w_X7_clear (S0 : St)  (Q : Int32 → St → Prop) : Prop :=
  ∀ x1 : Int32, x1 = S0.1 5002 0 → ∀ S2 : St, S2 = setI S0 5002 (0 : Int32) → Q x1 S2
set_option maxRecDepth 100000 in
set_option maxHeartbeats 4000000 in
theorem c_X7_clear {e : GE} {S0 : St}  {Q : Int32 → St → Prop} (h : w_X7_clear S0  Q) : CT e yX7_clear cX7_clear 2 (some .int) 1 [.ref (e.2.2.1 49)] S0 (pI Q) := by
  refine CT.of (by decide) (Nat.le_of_ble_eq_true rfl) (fun Z hR => ?_)
  rw [w_X7_clear] at h
  show MW Z e cX7_clear 2 RX7 1 0 [(0, .ref (e.2.2.1 49))] [] S0
  refine m_aload_n dX7_clear_0 0 rfl rfl ?_
  refine m_get 49 2 (o_49 e _) rfl inlX7 (by decide) q6_21 rfl dX7_clear_1 ?_
  refine m_topi (fun x1 ex1 => ?_)
  replace h := h x1 ex1
  refine m_istore_n (lv2 := [(1, .int x1), (0, .ref (e.2.2.1 49))]) dX7_clear_4 rfl (by decide) rfl ?_
  refine m_aload_n dX7_clear_5 1 rfl rfl ?_
  refine m_iconst (v := 0) dX7_clear_6 (by decide) ?_
  refine m_put (S2 := setI S0 5002 (0 : Int32)) 49 2 tyX7 tyX7_ok nmX7 (o_49 e _) rfl inlX7 (by decide) q6_21 rfl (tyX7_ok 2 (by decide)) rfl rfl (Nat.le_of_ble_eq_true rfl) (p_49_2 e _ _) dX7_clear_7 (fun S2 eS2 => ?_)
  replace h := h S2 eS2
  refine m_iload_n dX7_clear_10 0 rfl rfl ?_
  exact m_iret hR ⟨_, rfl, h⟩ dX7_clear_11
def w_X7_byteAt (S0 : St) (p1 : Int32) (Q : Int32 → Prop) : Prop :=
  (((S0.1 5002 0) ≤ p1 → Q (-1 : Int32)) ∧ (¬ (S0.1 5002 0) ≤ p1 → (vp_in p1 300 ∧ Q (S0.1 50 p1.toNatClampNeg))))
set_option maxRecDepth 100000 in
set_option maxHeartbeats 4000000 in
theorem c_X7_byteAt {e : GE} {S0 : St} {p1 : Int32} {Q : Int32 → Prop} (h : w_X7_byteAt S0 p1 Q) : CT e yX7_byteAt cX7_byteAt 2 (some .int) 1 [.ref (e.2.2.1 49), .int p1] S0 (pR S0 Q) := by
  refine CT.of (by decide) (Nat.le_of_ble_eq_true rfl) (fun Z hR => ?_)
  rw [w_X7_byteAt] at h
  show MW Z e cX7_byteAt 2 RX7 1 0 [(0, .ref (e.2.2.1 49)), (1, .int p1)] [] S0
  refine m_iload_n dX7_byteAt_0 1 rfl rfl ?_
  refine m_aload_n dX7_byteAt_1 0 rfl rfl ?_
  refine m_get 49 2 (o_49 e _) rfl inlX7 (by decide) q6_21 rfl dX7_byteAt_2 ?_
  refine m_icmp_ge (tgt := 17) dX7_byteAt_5 (by decide) (fun z => ?_) (fun z => ?_)
  · replace h := h.1 z
    refine m_iconst (v := -1) dX7_byteAt_17 (by decide) ?_
    exact m_iret hR ⟨_, rfl, rfl, h⟩ dX7_byteAt_18
  · replace h := h.2 z
    refine m_aload_n dX7_byteAt_8 0 rfl rfl ?_
    refine m_get 49 1 (o_49 e _) rfl inlX7 (by decide) q5_14 rfl dX7_byteAt_9 ?_
    refine m_iload_n dX7_byteAt_12 1 rfl rfl ?_
    refine m_iald 50 (a_50 e _) h.1 dX7_byteAt_13 ?_
    replace h := h.2
    refine m_goto (tgt := 18) dX7_byteAt_14 (by decide) ?_
    exact m_iret hR ⟨_, rfl, rfl, h⟩ dX7_byteAt_18
def w_X7_sortOf (p1 : Int32) (Q : Int32 → Prop) : Prop :=
  ((0 ≤ p1 → (w_X7_in p1 (97 : Int32) (122 : Int32)  (fun r1 => ((r1 = 0 → (w_X7_in p1 (48 : Int32) (57 : Int32)  (fun r2 => ((r2 = 0 → ((¬ p1 = (59 : Int32) → Q (4 : Int32)) ∧ (p1 = (59 : Int32) → Q (3 : Int32)))) ∧ (¬ r2 = 0 → Q (2 : Int32)))))) ∧ (¬ r1 = 0 → Q (1 : Int32)))))) ∧ (¬ 0 ≤ p1 → Q (0 : Int32)))
set_option maxRecDepth 100000 in
set_option maxHeartbeats 4000000 in
theorem c_X7_sortOf {e : GE} {S0 : St} {p1 : Int32} {Q : Int32 → Prop} (h : w_X7_sortOf p1 Q) : CT e yX7_sortOf cX7_sortOf 1 (some .int) 2 [.int p1] S0 (pR S0 Q) := by
  refine CT.of (by decide) (Nat.le_of_ble_eq_true rfl) (fun Z hR => ?_)
  rw [w_X7_sortOf] at h
  show MW Z e cX7_sortOf 1 RX7 2 0 [(0, .int p1)] [] S0
  refine m_iload_n dX7_sortOf_0 0 rfl rfl ?_
  refine m_if_ge (tgt := 8) dX7_sortOf_1 (by decide) (fun z => ?_) (fun z => ?_)
  · replace h := h.1 z
    refine m_iload_n dX7_sortOf_8 0 rfl rfl ?_
    refine m_bipush (v := 97) dX7_sortOf_9 (by decide) ?_
    refine m_bipush (v := 122) dX7_sortOf_11 (by decide) ?_
    refine m_callS [.int p1, .int (97 : Int32), .int (122 : Int32)] (c_X7_in h) q6_8 q6_9 q1_5 q6_10 t_X7_in rfl (by omega) (by decide) (Nat.le_of_ble_eq_true rfl) rfl dX7_sortOf_13 (kR (P := MW Z e cX7_sortOf 1 RX7 2 16 [(0, .int p1)]) (fun r1 h => ?_))
    refine m_if_eq (tgt := 23) dX7_sortOf_16 (by decide) (fun z => ?_) (fun z => ?_)
    · replace h := h.1 z
      refine m_iload_n dX7_sortOf_23 0 rfl rfl ?_
      refine m_bipush (v := 48) dX7_sortOf_24 (by decide) ?_
      refine m_bipush (v := 57) dX7_sortOf_26 (by decide) ?_
      refine m_callS [.int p1, .int (48 : Int32), .int (57 : Int32)] (c_X7_in h) q6_8 q6_9 q1_5 q6_10 t_X7_in rfl (by omega) (by decide) (Nat.le_of_ble_eq_true rfl) rfl dX7_sortOf_28 (kR (P := MW Z e cX7_sortOf 1 RX7 2 31 [(0, .int p1)]) (fun r2 h => ?_))
      refine m_if_eq (tgt := 38) dX7_sortOf_31 (by decide) (fun z => ?_) (fun z => ?_)
      · replace h := h.1 z
        refine m_iload_n dX7_sortOf_38 0 rfl rfl ?_
        refine m_bipush (v := 59) dX7_sortOf_39 (by decide) ?_
        refine m_icmp_ne (tgt := 48) dX7_sortOf_41 (by decide) (fun z => ?_) (fun z => ?_)
        · replace h := h.1 z
          refine m_iconst (v := 4) dX7_sortOf_48 (by decide) ?_
          exact m_iret hR ⟨_, rfl, rfl, h⟩ dX7_sortOf_49
        · replace h := h.2 z
          refine m_iconst (v := 3) dX7_sortOf_44 (by decide) ?_
          refine m_goto (tgt := 49) dX7_sortOf_45 (by decide) ?_
          exact m_iret hR ⟨_, rfl, rfl, h⟩ dX7_sortOf_49
      · replace h := h.2 z
        refine m_iconst (v := 2) dX7_sortOf_34 (by decide) ?_
        refine m_goto (tgt := 49) dX7_sortOf_35 (by decide) ?_
        exact m_iret hR ⟨_, rfl, rfl, h⟩ dX7_sortOf_49
    · replace h := h.2 z
      refine m_iconst (v := 1) dX7_sortOf_19 (by decide) ?_
      refine m_goto (tgt := 49) dX7_sortOf_20 (by decide) ?_
      exact m_iret hR ⟨_, rfl, rfl, h⟩ dX7_sortOf_49
  · replace h := h.2 z
    refine m_iconst (v := 0) dX7_sortOf_4 (by decide) ?_
    refine m_goto (tgt := 49) dX7_sortOf_5 (by decide) ?_
    exact m_iret hR ⟨_, rfl, rfl, h⟩ dX7_sortOf_49
def X7_token_L0 (kx : St → Prop) : Nat → St → Prop
  | 0 => fun _ => False
  | n + 1 => (fun (rec : St → Prop) => fun (S1 : St) => (w_X7_byteAt S1 (S1.1 5008 0)  (fun r2 => ((¬ r2 = (32 : Int32) → kx S1) ∧ (r2 = (32 : Int32) → ∀ S3 : St, S3 = setI S1 5008 ((S1.1 5008 0) + (1 : Int32)) → rec S3))))) (X7_token_L0 kx n)
def X7_token_L54 (kx : St → Prop) : Nat → St → Prop
  | 0 => fun _ => False
  | n + 1 => (fun (rec : St → Prop) => fun (S11 : St) => (∀ J12 : Prop, J12 = (∀ S13 : St, S13 = setI S11 5008 ((S11.1 5008 0) + (1 : Int32)) → ∀ S14 : St, S14 = setI S13 5011 ((S13.1 5011 0) + (1 : Int32)) → rec S14) → ∀ J15 : Prop, J15 = ((∀ J16 : Prop, J16 = ((w_X7_byteAt S11 (S11.1 5008 0)  (fun r17 => (w_X7_sortOf r17  (fun r18 => ((¬ r18 = (S11.1 5009 0) → kx S11) ∧ (r18 = (S11.1 5009 0) → J12))))))) → (((S11.1 5009 0) = (1 : Int32) → J16) ∧ (¬ (S11.1 5009 0) = (1 : Int32) → ((¬ (S11.1 5009 0) = (2 : Int32) → kx S11) ∧ ((S11.1 5009 0) = (2 : Int32) → J16)))))) → ((¬ (S11.1 5011 0) = 0 → J15) ∧ ((S11.1 5011 0) = 0 → ((¬ (S11.1 5009 0) = 0 → J12) ∧ ((S11.1 5009 0) = 0 → J15)))))) (X7_token_L54 kx n)
def w_X7_token (S0 : St)  (Q : St → Prop) : Prop :=
  (∃ n : Nat, X7_token_L0 (fun (S5 : St) => ∀ S6 : St, S6 = setI S5 5010 (S5.1 5008 0) → (w_X7_byteAt S6 (S6.1 5008 0) (fun r7 => (w_X7_sortOf r7 (fun r8 => ∀ S9 : St, S9 = setI S6 5009 r8 → ∀ S10 : St, S10 = setI S9 5011 (0 : Int32) → (∃ n : Nat, X7_token_L54 (fun (S20 : St) => Q S20) n S10)))))) n S0)
set_option maxRecDepth 100000 in
set_option maxHeartbeats 4000000 in
theorem l_X7_token_L0 {Z : Zt} {e : GE} {kx : St → Prop} (hk : ∀ (S4 : St), kx S4 → MW Z e cX7_token 1 RX7 3 26 [(0, .ref (e.2.2.1 49))] [] S4) : ∀ (n : Nat) (S1 : St), X7_token_L0 kx n S1 → MW Z e cX7_token 1 RX7 3 0 [(0, .ref (e.2.2.1 49))] [] S1 := by
  intro n
  induction n with
  | zero =>
    intro S1 h
    exact h.elim
  | succ n ih =>
    intro S1 h
    rw [X7_token_L0] at h
    refine m_aload_n dX7_token_0 0 rfl rfl ?_
    refine m_aload_n dX7_token_1 0 rfl rfl ?_
    refine m_get 49 8 (o_49 e _) rfl inlX7 (by decide) q6_6 rfl dX7_token_2 ?_
    refine m_callV 49 [.int (S1.1 5008 0)] (c_X7_byteAt h) (o_49 e _) rfl rfl q6_17 q6_18 q6_19 q1_5 q6_20 t_X7_byteAt rfl (by omega) (by decide) (Nat.le_of_ble_eq_true rfl) rfl dX7_token_5 (kR (P := MW Z e cX7_token 1 RX7 3 8 [(0, .ref (e.2.2.1 49))]) (fun r2 h => ?_))
    refine m_bipush (v := 32) dX7_token_8 (by decide) ?_
    refine m_icmp_ne (tgt := 26) dX7_token_10 (by decide) (fun z => ?_) (fun z => ?_)
    · replace h := h.1 z
      exact hk S1 h
    · replace h := h.2 z
      refine m_aload_n dX7_token_13 0 rfl rfl ?_
      refine m_dup dX7_token_14 rfl ?_
      refine m_get 49 8 (o_49 e _) rfl inlX7 (by decide) q6_6 rfl dX7_token_15 ?_
      refine m_iconst (v := 1) dX7_token_18 (by decide) ?_
      refine m_iadd dX7_token_19 ?_
      refine m_put (S2 := setI S1 5008 ((S1.1 5008 0) + (1 : Int32))) 49 8 tyX7 tyX7_ok nmX7 (o_49 e _) rfl inlX7 (by decide) q6_6 rfl (tyX7_ok 8 (by decide)) rfl rfl (Nat.le_of_ble_eq_true rfl) (p_49_8 e _ _) dX7_token_20 (fun S3 eS3 => ?_)
      replace h := h S3 eS3
      refine m_goto (tgt := 0) dX7_token_23 (by decide) ?_
      exact ih S3 h
set_option maxRecDepth 100000 in
set_option maxHeartbeats 4000000 in
theorem l_X7_token_L54 {Z : Zt} {e : GE} {kx : St → Prop} (hk : ∀ (S19 : St), kx S19 → MW Z e cX7_token 1 RX7 3 125 [] [] S19) : ∀ (n : Nat) (S11 : St), X7_token_L54 kx n S11 → MW Z e cX7_token 1 RX7 3 54 [(0, .ref (e.2.2.1 49))] [] S11 := by
  intro n
  induction n with
  | zero =>
    intro S11 h
    exact h.elim
  | succ n ih =>
    intro S11 h
    rw [X7_token_L54] at h
    refine m_aload_n dX7_token_54 0 rfl rfl ?_
    refine m_get 49 11 (o_49 e _) rfl inlX7 (by decide) q6_16 rfl dX7_token_55 ?_
    obtain ⟨J12, eJ12, h⟩ := jn h
    have kJ12 : J12 → MW Z e cX7_token 1 RX7 3 102 [(0, .ref (e.2.2.1 49))] [] S11 := by
      intro  h
      rw [eJ12] at h
      refine m_aload_n dX7_token_102 0 rfl rfl ?_
      refine m_dup dX7_token_103 rfl ?_
      refine m_get 49 8 (o_49 e _) rfl inlX7 (by decide) q6_6 rfl dX7_token_104 ?_
      refine m_iconst (v := 1) dX7_token_107 (by decide) ?_
      refine m_iadd dX7_token_108 ?_
      refine m_put (S2 := setI S11 5008 ((S11.1 5008 0) + (1 : Int32))) 49 8 tyX7 tyX7_ok nmX7 (o_49 e _) rfl inlX7 (by decide) q6_6 rfl (tyX7_ok 8 (by decide)) rfl rfl (Nat.le_of_ble_eq_true rfl) (p_49_8 e _ _) dX7_token_109 (fun S13 eS13 => ?_)
      replace h := h S13 eS13
      refine m_aload_n dX7_token_112 0 rfl rfl ?_
      refine m_dup dX7_token_113 rfl ?_
      refine m_get 49 11 (o_49 e _) rfl inlX7 (by decide) q6_16 rfl dX7_token_114 ?_
      refine m_iconst (v := 1) dX7_token_117 (by decide) ?_
      refine m_iadd dX7_token_118 ?_
      refine m_put (S2 := setI S13 5011 ((S13.1 5011 0) + (1 : Int32))) 49 11 tyX7 tyX7_ok nmX7 (o_49 e _) rfl inlX7 (by decide) q6_16 rfl (tyX7_ok 11 (by decide)) rfl rfl (Nat.le_of_ble_eq_true rfl) (p_49_11 e _ _) dX7_token_119 (fun S14 eS14 => ?_)
      replace h := h S14 eS14
      refine m_goto (tgt := 54) dX7_token_122 (by decide) ?_
      exact ih S14 h
    obtain ⟨J15, eJ15, h⟩ := jn h
    have kJ15 : J15 → MW Z e cX7_token 1 RX7 3 68 [(0, .ref (e.2.2.1 49))] [] S11 := by
      intro  h
      rw [eJ15] at h
      refine m_aload_n dX7_token_68 0 rfl rfl ?_
      refine m_get 49 9 (o_49 e _) rfl inlX7 (by decide) q6_7 rfl dX7_token_69 ?_
      refine m_iconst (v := 1) dX7_token_72 (by decide) ?_
      obtain ⟨J16, eJ16, h⟩ := jn h
      have kJ16 : J16 → MW Z e cX7_token 1 RX7 3 84 [(0, .ref (e.2.2.1 49))] [] S11 := by
        intro  h
        rw [eJ16] at h
        refine m_aload_n dX7_token_84 0 rfl rfl ?_
        refine m_aload_n dX7_token_85 0 rfl rfl ?_
        refine m_get 49 8 (o_49 e _) rfl inlX7 (by decide) q6_6 rfl dX7_token_86 ?_
        refine m_callV 49 [.int (S11.1 5008 0)] (c_X7_byteAt h) (o_49 e _) rfl rfl q6_17 q6_18 q6_19 q1_5 q6_20 t_X7_byteAt rfl (by omega) (by decide) (Nat.le_of_ble_eq_true rfl) rfl dX7_token_89 (kR (P := MW Z e cX7_token 1 RX7 3 92 [(0, .ref (e.2.2.1 49))]) (fun r17 h => ?_))
        refine m_callS [.int r17] (c_X7_sortOf h) q6_22 q6_23 q1_5 q7_0 t_X7_sortOf rfl (by omega) (by decide) (Nat.le_of_ble_eq_true rfl) rfl dX7_token_92 (kR (P := MW Z e cX7_token 1 RX7 3 95 [(0, .ref (e.2.2.1 49))]) (fun r18 h => ?_))
        refine m_aload_n dX7_token_95 0 rfl rfl ?_
        refine m_get 49 9 (o_49 e _) rfl inlX7 (by decide) q6_7 rfl dX7_token_96 ?_
        refine m_icmp_ne (tgt := 125) dX7_token_99 (by decide) (fun z => ?_) (fun z => ?_)
        · replace h := h.1 z
          refine m_loc [] rfl ?_
          exact hk S11 h
        · replace h := h.2 z
          exact kJ12  h
      refine m_icmp_eq (tgt := 84) dX7_token_73 (by decide) (fun z => ?_) (fun z => ?_)
      · replace h := h.1 z
        exact kJ16  h
      · replace h := h.2 z
        refine m_aload_n dX7_token_76 0 rfl rfl ?_
        refine m_get 49 9 (o_49 e _) rfl inlX7 (by decide) q6_7 rfl dX7_token_77 ?_
        refine m_iconst (v := 2) dX7_token_80 (by decide) ?_
        refine m_icmp_ne (tgt := 125) dX7_token_81 (by decide) (fun z => ?_) (fun z => ?_)
        · replace h := h.1 z
          refine m_loc [] rfl ?_
          exact hk S11 h
        · replace h := h.2 z
          exact kJ16  h
    refine m_if_ne (tgt := 68) dX7_token_58 (by decide) (fun z => ?_) (fun z => ?_)
    · replace h := h.1 z
      exact kJ15  h
    · replace h := h.2 z
      refine m_aload_n dX7_token_61 0 rfl rfl ?_
      refine m_get 49 9 (o_49 e _) rfl inlX7 (by decide) q6_7 rfl dX7_token_62 ?_
      refine m_if_ne (tgt := 102) dX7_token_65 (by decide) (fun z => ?_) (fun z => ?_)
      · replace h := h.1 z
        exact kJ12  h
      · replace h := h.2 z
        exact kJ15  h
set_option maxRecDepth 100000 in
set_option maxHeartbeats 4000000 in
theorem c_X7_token {e : GE} {S0 : St}  {Q : St → Prop} (h : w_X7_token S0  Q) : CT e yX7_token cX7_token 1 none 3 [.ref (e.2.2.1 49)] S0 (pV Q) := by
  refine CT.of (by decide) (Nat.le_of_ble_eq_true rfl) (fun Z hR => ?_)
  rw [w_X7_token] at h
  show MW Z e cX7_token 1 RX7 3 0 [(0, .ref (e.2.2.1 49))] [] S0
  obtain ⟨n, h⟩ := h
  refine l_X7_token_L0 (fun S5 h => ?_) n S0 h
  refine m_aload_n dX7_token_26 0 rfl rfl ?_
  refine m_aload_n dX7_token_27 0 rfl rfl ?_
  refine m_get 49 8 (o_49 e _) rfl inlX7 (by decide) q6_6 rfl dX7_token_28 ?_
  refine m_put (S2 := setI S5 5010 (S5.1 5008 0)) 49 10 tyX7 tyX7_ok nmX7 (o_49 e _) rfl inlX7 (by decide) q6_15 rfl (tyX7_ok 10 (by decide)) rfl rfl (Nat.le_of_ble_eq_true rfl) (p_49_10 e _ _) dX7_token_31 (fun S6 eS6 => ?_)
  replace h := h S6 eS6
  refine m_aload_n dX7_token_34 0 rfl rfl ?_
  refine m_aload_n dX7_token_35 0 rfl rfl ?_
  refine m_aload_n dX7_token_36 0 rfl rfl ?_
  refine m_get 49 8 (o_49 e _) rfl inlX7 (by decide) q6_6 rfl dX7_token_37 ?_
  refine m_callV 49 [.int (S6.1 5008 0)] (c_X7_byteAt h) (o_49 e _) rfl rfl q6_17 q6_18 q6_19 q1_5 q6_20 t_X7_byteAt rfl (by omega) (by decide) (Nat.le_of_ble_eq_true rfl) rfl dX7_token_40 (kR (P := MW Z e cX7_token 1 RX7 3 43 [(0, .ref (e.2.2.1 49))]) (fun r7 h => ?_))
  refine m_callS [.int r7] (c_X7_sortOf h) q6_22 q6_23 q1_5 q7_0 t_X7_sortOf rfl (by omega) (by decide) (Nat.le_of_ble_eq_true rfl) rfl dX7_token_43 (kR (P := MW Z e cX7_token 1 RX7 3 46 [(0, .ref (e.2.2.1 49))]) (fun r8 h => ?_))
  refine m_put (S2 := setI S6 5009 r8) 49 9 tyX7 tyX7_ok nmX7 (o_49 e _) rfl inlX7 (by decide) q6_7 rfl (tyX7_ok 9 (by decide)) rfl rfl (Nat.le_of_ble_eq_true rfl) (p_49_9 e _ _) dX7_token_46 (fun S9 eS9 => ?_)
  replace h := h S9 eS9
  refine m_aload_n dX7_token_49 0 rfl rfl ?_
  refine m_iconst (v := 0) dX7_token_50 (by decide) ?_
  refine m_put (S2 := setI S9 5011 (0 : Int32)) 49 11 tyX7 tyX7_ok nmX7 (o_49 e _) rfl inlX7 (by decide) q6_16 rfl (tyX7_ok 11 (by decide)) rfl rfl (Nat.le_of_ble_eq_true rfl) (p_49_11 e _ _) dX7_token_51 (fun S10 eS10 => ?_)
  replace h := h S10 eS10
  obtain ⟨n, h⟩ := h
  refine l_X7_token_L54 (fun S20 h => ?_) n S10 h
  exact m_vret hR ⟨rfl, h⟩ dX7_token_125
def X7_verb_L4 (S3 : St) (kx : Int64 → Prop) : Nat → Int64 → Int32 → Prop
  | 0 => fun _ _ => False
  | n + 1 => (fun (rec : Int64 → Int32 → Prop) => fun (v1 : Int64) (v2 : Int32) => (((S3.1 5011 0) ≤ v2 → kx v1) ∧ (¬ (S3.1 5011 0) ≤ v2 → (((7 : Int32) ≤ (S3.1 5011 0) → kx v1) ∧ (¬ (7 : Int32) ≤ (S3.1 5011 0) → ((¬ (S3.1 5009 0) = (1 : Int32) → kx v1) ∧ ((S3.1 5009 0) = (1 : Int32) → (w_X7_byteAt S3 ((S3.1 5010 0) + v2)  (fun r4 => ∀ x5 : Int64, x5 = ((256 : Int64) * v1) + (r4.toInt64) → ∀ x6 : Int32, x6 = v2 + (1 : Int32) → rec x5 x6))))))))) (X7_verb_L4 S3 kx n)
def w_X7_verb (S0 : St)  (Q : Int32 → Prop) : Prop :=
  (∃ n : Nat, X7_verb_L4 S0 (fun (v8 : Int64) => ((¬ (lg_cmp v8 (6447474 : Int64)) = 0 → ((¬ (lg_cmp v8 (123581014175598 : Int64)) = 0 → ((¬ (lg_cmp v8 (1918986606 : Int64)) = 0 → ((¬ (lg_cmp v8 (482670636660 : Int64)) = 0 → Q (-9 : Int32)) ∧ ((lg_cmp v8 (482670636660 : Int64)) = 0 → Q (3 : Int32)))) ∧ ((lg_cmp v8 (1918986606 : Int64)) = 0 → Q (2 : Int32)))) ∧ ((lg_cmp v8 (123581014175598 : Int64)) = 0 → Q (1 : Int32)))) ∧ ((lg_cmp v8 (6447474 : Int64)) = 0 → Q (0 : Int32)))) n (0 : Int64) (0 : Int32))
set_option maxRecDepth 100000 in
set_option maxHeartbeats 4000000 in
theorem l_X7_verb_L4 {Z : Zt} {e : GE} {S3 : St} {kx : Int64 → Prop} (hk : ∀ (v7 : Int64), kx v7 → MW Z e cX7_verb 4 RX7 2 53 [(1, .long v7)] [] S3) : ∀ (n : Nat) (v1 : Int64) (v2 : Int32), X7_verb_L4 S3 kx n v1 v2 → MW Z e cX7_verb 4 RX7 2 4 [(0, .ref (e.2.2.1 49)), (1, .long v1), (3, .int v2)] [] S3 := by
  intro n
  induction n with
  | zero =>
    intro v1 v2 h
    exact h.elim
  | succ n ih =>
    intro v1 v2 h
    rw [X7_verb_L4] at h
    refine m_iload_n dX7_verb_4 2 rfl rfl ?_
    refine m_aload_n dX7_verb_5 0 rfl rfl ?_
    refine m_get 49 11 (o_49 e _) rfl inlX7 (by decide) q6_16 rfl dX7_verb_6 ?_
    refine m_icmp_ge (tgt := 53) dX7_verb_9 (by decide) (fun z => ?_) (fun z => ?_)
    · replace h := h.1 z
      refine m_loc [1] rfl ?_
      exact hk v1 h
    · replace h := h.2 z
      refine m_aload_n dX7_verb_12 0 rfl rfl ?_
      refine m_get 49 11 (o_49 e _) rfl inlX7 (by decide) q6_16 rfl dX7_verb_13 ?_
      refine m_bipush (v := 7) dX7_verb_16 (by decide) ?_
      refine m_icmp_ge (tgt := 53) dX7_verb_18 (by decide) (fun z => ?_) (fun z => ?_)
      · replace h := h.1 z
        refine m_loc [1] rfl ?_
        exact hk v1 h
      · replace h := h.2 z
        refine m_aload_n dX7_verb_21 0 rfl rfl ?_
        refine m_get 49 9 (o_49 e _) rfl inlX7 (by decide) q6_7 rfl dX7_verb_22 ?_
        refine m_iconst (v := 1) dX7_verb_25 (by decide) ?_
        refine m_icmp_ne (tgt := 53) dX7_verb_26 (by decide) (fun z => ?_) (fun z => ?_)
        · replace h := h.1 z
          refine m_loc [1] rfl ?_
          exact hk v1 h
        · replace h := h.2 z
          refine m_ldc2 q7_5 dX7_verb_29 ?_
          refine m_lload_n dX7_verb_32 1 rfl rfl ?_
          refine m_lmul dX7_verb_33 ?_
          refine m_aload_n dX7_verb_34 0 rfl rfl ?_
          refine m_aload_n dX7_verb_35 0 rfl rfl ?_
          refine m_get 49 10 (o_49 e _) rfl inlX7 (by decide) q6_15 rfl dX7_verb_36 ?_
          refine m_iload_n dX7_verb_39 2 rfl rfl ?_
          refine m_iadd dX7_verb_40 ?_
          refine m_callV 49 [.int ((S3.1 5010 0) + v2)] (c_X7_byteAt h) (o_49 e _) rfl rfl q6_17 q6_18 q6_19 q1_5 q6_20 t_X7_byteAt rfl (by omega) (by decide) (Nat.le_of_ble_eq_true rfl) rfl dX7_verb_41 (kR (P := MW Z e cX7_verb 4 RX7 2 44 [(0, .ref (e.2.2.1 49)), (1, .long v1), (3, .int v2)]) (fun r4 h => ?_))
          refine m_i2l dX7_verb_44 ?_
          refine m_ladd dX7_verb_45 ?_
          refine m_topl (fun x5 ex5 => ?_)
          replace h := h x5 ex5
          refine m_lstore_n (lv2 := [(1, .long x5), (0, .ref (e.2.2.1 49)), (3, .int v2)]) dX7_verb_46 rfl (by decide) rfl ?_
          obtain ⟨x6, ex6⟩ : ∃ y : Int32, y = v2 + (1 : Int32) := ⟨_, rfl⟩
          replace h := h x6 ex6
          refine m_iinc (v := x6) (lv2 := [(3, .int x6), (1, .long x5), (0, .ref (e.2.2.1 49))]) dX7_verb_47 2 rfl ex6.symm (by decide) rfl ?_
          refine m_goto (tgt := 4) dX7_verb_50 (by decide) ?_
          refine m_loc [2, 1, 0] rfl ?_
          exact ih x5 x6 h
set_option maxRecDepth 100000 in
set_option maxHeartbeats 4000000 in
theorem c_X7_verb {e : GE} {S0 : St}  {Q : Int32 → Prop} (h : w_X7_verb S0  Q) : CT e yX7_verb cX7_verb 4 (some .int) 2 [.ref (e.2.2.1 49)] S0 (pR S0 Q) := by
  refine CT.of (by decide) (Nat.le_of_ble_eq_true rfl) (fun Z hR => ?_)
  rw [w_X7_verb] at h
  show MW Z e cX7_verb 4 RX7 2 0 [(0, .ref (e.2.2.1 49))] [] S0
  refine m_lconst (v := 0) dX7_verb_0 (by decide) ?_
  refine m_lstore_n (lv2 := [(1, .long (0 : Int64)), (0, .ref (e.2.2.1 49))]) dX7_verb_1 rfl (by decide) rfl ?_
  refine m_iconst (v := 0) dX7_verb_2 (by decide) ?_
  refine m_istore_n (lv2 := [(3, .int (0 : Int32)), (1, .long (0 : Int64)), (0, .ref (e.2.2.1 49))]) dX7_verb_3 rfl (by decide) rfl ?_
  obtain ⟨n, h⟩ := h
  refine m_loc [2, 1, 0] rfl ?_
  refine l_X7_verb_L4 (fun v8 h => ?_) n (0 : Int64) (0 : Int32) h
  refine m_lload_n dX7_verb_53 0 rfl rfl ?_
  refine m_ldc2 q7_6 dX7_verb_54 ?_
  refine m_lcmp dX7_verb_57 ?_
  refine m_if_ne (tgt := 65) dX7_verb_58 (by decide) (fun z => ?_) (fun z => ?_)
  · replace h := h.1 z
    refine m_lload_n dX7_verb_65 0 rfl rfl ?_
    refine m_ldc2 q7_7 dX7_verb_66 ?_
    refine m_lcmp dX7_verb_69 ?_
    refine m_if_ne (tgt := 77) dX7_verb_70 (by decide) (fun z => ?_) (fun z => ?_)
    · replace h := h.1 z
      refine m_lload_n dX7_verb_77 0 rfl rfl ?_
      refine m_ldc2 q7_8 dX7_verb_78 ?_
      refine m_lcmp dX7_verb_81 ?_
      refine m_if_ne (tgt := 89) dX7_verb_82 (by decide) (fun z => ?_) (fun z => ?_)
      · replace h := h.1 z
        refine m_lload_n dX7_verb_89 0 rfl rfl ?_
        refine m_ldc2 q7_9 dX7_verb_90 ?_
        refine m_lcmp dX7_verb_93 ?_
        refine m_if_ne (tgt := 101) dX7_verb_94 (by decide) (fun z => ?_) (fun z => ?_)
        · replace h := h.1 z
          refine m_bipush (v := -9) dX7_verb_101 (by decide) ?_
          exact m_iret hR ⟨_, rfl, rfl, h⟩ dX7_verb_103
        · replace h := h.2 z
          refine m_iconst (v := 3) dX7_verb_97 (by decide) ?_
          refine m_goto (tgt := 103) dX7_verb_98 (by decide) ?_
          exact m_iret hR ⟨_, rfl, rfl, h⟩ dX7_verb_103
      · replace h := h.2 z
        refine m_iconst (v := 2) dX7_verb_85 (by decide) ?_
        refine m_goto (tgt := 103) dX7_verb_86 (by decide) ?_
        exact m_iret hR ⟨_, rfl, rfl, h⟩ dX7_verb_103
    · replace h := h.2 z
      refine m_iconst (v := 1) dX7_verb_73 (by decide) ?_
      refine m_goto (tgt := 103) dX7_verb_74 (by decide) ?_
      exact m_iret hR ⟨_, rfl, rfl, h⟩ dX7_verb_103
  · replace h := h.2 z
    refine m_iconst (v := 0) dX7_verb_61 (by decide) ?_
    refine m_goto (tgt := 103) dX7_verb_62 (by decide) ?_
    exact m_iret hR ⟨_, rfl, rfl, h⟩ dX7_verb_103
def w_X7_figure (S0 : St) (p1 : Int32) (p2 : Int32) (Q : Int32 → St → Prop) : Prop :=
  (w_X7_token S0  (fun S1 => (w_X7_byteAt S1 (S1.1 5010 0)  (fun r2 => ∀ x3 : Int32, x3 = r2 - (48 : Int32) → ((¬ (S1.1 5009 0) = (2 : Int32) → Q (-9 : Int32) S1) ∧ ((S1.1 5009 0) = (2 : Int32) → ((¬ (S1.1 5011 0) = (1 : Int32) → Q (-9 : Int32) S1) ∧ ((S1.1 5011 0) = (1 : Int32) → (w_X7_in x3 p1 p2  (fun r4 => ((r4 = 0 → Q (-9 : Int32) S1) ∧ (¬ r4 = 0 → Q x3 S1))))))))))))
set_option maxRecDepth 100000 in
set_option maxHeartbeats 4000000 in
theorem c_X7_figure {e : GE} {S0 : St} {p1 : Int32} {p2 : Int32} {Q : Int32 → St → Prop} (h : w_X7_figure S0 p1 p2 Q) : CT e yX7_figure cX7_figure 4 (some .int) 4 [.ref (e.2.2.1 49), .int p1, .int p2] S0 (pI Q) := by
  refine CT.of (by decide) (Nat.le_of_ble_eq_true rfl) (fun Z hR => ?_)
  rw [w_X7_figure] at h
  show MW Z e cX7_figure 4 RX7 4 0 [(0, .ref (e.2.2.1 49)), (1, .int p1), (2, .int p2)] [] S0
  refine m_aload_n dX7_figure_0 0 rfl rfl ?_
  refine m_callV 49 [] (c_X7_token h) (o_49 e _) rfl rfl q6_11 q6_12 q6_13 q1_5 q6_14 t_X7_token rfl (by omega) (by decide) (Nat.le_of_ble_eq_true rfl) rfl dX7_figure_1 (kV (P := MW Z e cX7_figure 4 RX7 4 4 [(0, .ref (e.2.2.1 49)), (1, .int p1), (2, .int p2)]) (fun S1 h => ?_))
  refine m_aload_n dX7_figure_4 0 rfl rfl ?_
  refine m_aload_n dX7_figure_5 0 rfl rfl ?_
  refine m_get 49 10 (o_49 e _) rfl inlX7 (by decide) q6_15 rfl dX7_figure_6 ?_
  refine m_callV 49 [.int (S1.1 5010 0)] (c_X7_byteAt h) (o_49 e _) rfl rfl q6_17 q6_18 q6_19 q1_5 q6_20 t_X7_byteAt rfl (by omega) (by decide) (Nat.le_of_ble_eq_true rfl) rfl dX7_figure_9 (kR (P := MW Z e cX7_figure 4 RX7 4 12 [(0, .ref (e.2.2.1 49)), (1, .int p1), (2, .int p2)]) (fun r2 h => ?_))
  refine m_bipush (v := 48) dX7_figure_12 (by decide) ?_
  refine m_isub dX7_figure_14 ?_
  refine m_topi (fun x3 ex3 => ?_)
  replace h := h x3 ex3
  refine m_istore_n (lv2 := [(3, .int x3), (0, .ref (e.2.2.1 49)), (1, .int p1), (2, .int p2)]) dX7_figure_15 rfl (by decide) rfl ?_
  refine m_aload_n dX7_figure_16 1 rfl rfl ?_
  refine m_get 49 9 (o_49 e _) rfl inlX7 (by decide) q6_7 rfl dX7_figure_17 ?_
  refine m_iconst (v := 2) dX7_figure_20 (by decide) ?_
  refine m_icmp_ne (tgt := 45) dX7_figure_21 (by decide) (fun z => ?_) (fun z => ?_)
  · replace h := h.1 z
    refine m_bipush (v := -9) dX7_figure_45 (by decide) ?_
    exact m_iret hR ⟨_, rfl, h⟩ dX7_figure_47
  · replace h := h.2 z
    refine m_aload_n dX7_figure_24 1 rfl rfl ?_
    refine m_get 49 11 (o_49 e _) rfl inlX7 (by decide) q6_16 rfl dX7_figure_25 ?_
    refine m_iconst (v := 1) dX7_figure_28 (by decide) ?_
    refine m_icmp_ne (tgt := 45) dX7_figure_29 (by decide) (fun z => ?_) (fun z => ?_)
    · replace h := h.1 z
      refine m_bipush (v := -9) dX7_figure_45 (by decide) ?_
      exact m_iret hR ⟨_, rfl, h⟩ dX7_figure_47
    · replace h := h.2 z
      refine m_iload_n dX7_figure_32 0 rfl rfl ?_
      refine m_iload_n dX7_figure_33 2 rfl rfl ?_
      refine m_iload_n dX7_figure_34 3 rfl rfl ?_
      refine m_callS [.int x3, .int p1, .int p2] (c_X7_in h) q6_8 q6_9 q1_5 q6_10 t_X7_in rfl (by omega) (by decide) (Nat.le_of_ble_eq_true rfl) rfl dX7_figure_35 (kR (P := MW Z e cX7_figure 4 RX7 4 38 [(3, .int x3), (0, .ref (e.2.2.1 49)), (1, .int p1), (2, .int p2)]) (fun r4 h => ?_))
      refine m_if_eq (tgt := 45) dX7_figure_38 (by decide) (fun z => ?_) (fun z => ?_)
      · replace h := h.1 z
        refine m_bipush (v := -9) dX7_figure_45 (by decide) ?_
        exact m_iret hR ⟨_, rfl, h⟩ dX7_figure_47
      · replace h := h.2 z
        refine m_iload_n dX7_figure_41 0 rfl rfl ?_
        refine m_goto (tgt := 47) dX7_figure_42 (by decide) ?_
        exact m_iret hR ⟨_, rfl, h⟩ dX7_figure_47
def w_X7_readsPaint (S0 : St)  (Q : Int32 → St → Prop) : Prop :=
  (vp_in (2 : Int32) 47 ∧ ∀ x1 : Int32, x1 = S0.1 52 (2 : Int32).toNatClampNeg → (∀ J2 : St → Int32 → Prop, J2 = (fun (S3 : St) (x4 : Int32) => (∀ J5 : St → Int32 → Prop, J5 = (fun (S6 : St) (x7 : Int32) => (∀ J8 : St → Int32 → Prop, J8 = (fun (S9 : St) (x10 : Int32) => ((¬ x10 = (-9 : Int32) → (vp_in ((23 : Int32) + x1) 47 ∧ ∀ S11 : St, S11 = setA S9 52 (upd (S9.1 52) ((23 : Int32) + x1).toNatClampNeg x4) → (vp_in ((31 : Int32) + x1) 47 ∧ ∀ S12 : St, S12 = setA S11 52 (upd (S11.1 52) ((31 : Int32) + x1).toNatClampNeg x7) → (vp_in ((39 : Int32) + x1) 47 ∧ ∀ S13 : St, S13 = setA S12 52 (upd (S12.1 52) ((39 : Int32) + x1).toNatClampNeg x10) → (vp_in (2 : Int32) 47 ∧ (vp_in (2 : Int32) 47 ∧ ∀ S14 : St, S14 = setA S13 52 (upd (S13.1 52) (2 : Int32).toNatClampNeg ((S13.1 52 (2 : Int32).toNatClampNeg) + (1 : Int32))) → Q (1 : Int32) S14)))))) ∧ (x10 = (-9 : Int32) → Q (0 : Int32) S9))) → ((¬ x7 = (-9 : Int32) → (w_X7_figure S6 (1 : Int32) (5 : Int32)  (fun r15 S16 => J8 S16 r15))) ∧ (x7 = (-9 : Int32) → J8 S6 (-9 : Int32))))) → ((¬ x4 = (-9 : Int32) → (w_X7_figure S3 (0 : Int32) (9 : Int32)  (fun r17 S18 => J5 S18 r17))) ∧ (x4 = (-9 : Int32) → J5 S3 (-9 : Int32))))) → ((¬ x1 = (8 : Int32) → (vp_in (0 : Int32) 47 ∧ (w_X7_figure S0 (0 : Int32) ((S0.1 52 (0 : Int32).toNatClampNeg) - (1 : Int32))  (fun r19 S20 => J2 S20 r19)))) ∧ (x1 = (8 : Int32) → J2 S0 (-9 : Int32)))))
set_option maxRecDepth 100000 in
set_option maxHeartbeats 4000000 in
theorem c_X7_readsPaint {e : GE} {S0 : St}  {Q : Int32 → St → Prop} (h : w_X7_readsPaint S0  Q) : CT e yX7_readsPaint cX7_readsPaint 5 (some .boolean) 5 [.ref (e.2.2.1 49)] S0 (pI Q) := by
  refine CT.of (by decide) (Nat.le_of_ble_eq_true rfl) (fun Z hR => ?_)
  rw [w_X7_readsPaint] at h
  show MW Z e cX7_readsPaint 5 RX7 5 0 [(0, .ref (e.2.2.1 49))] [] S0
  refine m_aload_n dX7_readsPaint_0 0 rfl rfl ?_
  refine m_get 49 4 (o_49 e _) rfl inlX7 (by decide) q5_16 rfl dX7_readsPaint_1 ?_
  refine m_iconst (v := 2) dX7_readsPaint_4 (by decide) ?_
  refine m_iald 52 (a_52 e _) h.1 dX7_readsPaint_5 ?_
  replace h := h.2
  refine m_topi (fun x1 ex1 => ?_)
  replace h := h x1 ex1
  refine m_istore_n (lv2 := [(1, .int x1), (0, .ref (e.2.2.1 49))]) dX7_readsPaint_6 rfl (by decide) rfl ?_
  refine m_iload_n dX7_readsPaint_7 0 rfl rfl ?_
  refine m_bipush (v := 8) dX7_readsPaint_8 (by decide) ?_
  obtain ⟨J2, eJ2, h⟩ := jn h
  have kJ2 : ∀ (S3 : St) (x4 : Int32), J2 S3 x4 → MW Z e cX7_readsPaint 5 RX7 5 31 [(0, .ref (e.2.2.1 49)), (1, .int x1)] [.int x4] S3 := by
    intro S3 x4 h
    rw [eJ2] at h
    refine m_istore_n (lv2 := [(2, .int x4), (0, .ref (e.2.2.1 49)), (1, .int x1)]) dX7_readsPaint_31 rfl (by decide) rfl ?_
    refine m_iload_n dX7_readsPaint_32 0 rfl rfl ?_
    refine m_bipush (v := -9) dX7_readsPaint_33 (by decide) ?_
    obtain ⟨J5, eJ5, h⟩ := jn h
    have kJ5 : ∀ (S6 : St) (x7 : Int32), J5 S6 x7 → MW Z e cX7_readsPaint 5 RX7 5 50 [(0, .ref (e.2.2.1 49)), (1, .int x1), (2, .int x4)] [.int x7] S6 := by
      intro S6 x7 h
      rw [eJ5] at h
      refine m_istore_n (lv2 := [(3, .int x7), (0, .ref (e.2.2.1 49)), (1, .int x1), (2, .int x4)]) dX7_readsPaint_50 rfl (by decide) rfl ?_
      refine m_iload_n dX7_readsPaint_51 0 rfl rfl ?_
      refine m_bipush (v := -9) dX7_readsPaint_52 (by decide) ?_
      obtain ⟨J8, eJ8, h⟩ := jn h
      have kJ8 : ∀ (S9 : St) (x10 : Int32), J8 S9 x10 → MW Z e cX7_readsPaint 5 RX7 5 68 [(0, .ref (e.2.2.1 49)), (1, .int x1), (2, .int x4), (3, .int x7)] [.int x10] S9 := by
        intro S9 x10 h
        rw [eJ8] at h
        refine m_istore (lv2 := [(4, .int x10), (0, .ref (e.2.2.1 49)), (1, .int x1), (2, .int x4), (3, .int x7)]) dX7_readsPaint_68 (by decide) rfl ?_
        refine m_iload dX7_readsPaint_70 0 rfl ?_
        refine m_bipush (v := -9) dX7_readsPaint_72 (by decide) ?_
        refine m_icmp_ne (tgt := 79) dX7_readsPaint_74 (by decide) (fun z => ?_) (fun z => ?_)
        · replace h := h.1 z
          refine m_aload_n dX7_readsPaint_79 1 rfl rfl ?_
          refine m_get 49 4 (o_49 e _) rfl inlX7 (by decide) q5_16 rfl dX7_readsPaint_80 ?_
          refine m_bipush (v := 23) dX7_readsPaint_83 (by decide) ?_
          refine m_iload_n dX7_readsPaint_85 2 rfl rfl ?_
          refine m_iadd dX7_readsPaint_86 ?_
          refine m_iload_n dX7_readsPaint_87 3 rfl rfl ?_
          refine m_iast 52 (a_52 e _) (aw_52 e _) h.1 dX7_readsPaint_88 (fun S11 eS11 => ?_)
          replace h := h.2 S11 eS11
          refine m_aload_n dX7_readsPaint_89 1 rfl rfl ?_
          refine m_get 49 4 (o_49 e _) rfl inlX7 (by decide) q5_16 rfl dX7_readsPaint_90 ?_
          refine m_bipush (v := 31) dX7_readsPaint_93 (by decide) ?_
          refine m_iload_n dX7_readsPaint_95 2 rfl rfl ?_
          refine m_iadd dX7_readsPaint_96 ?_
          refine m_iload_n dX7_readsPaint_97 4 rfl rfl ?_
          refine m_iast 52 (a_52 e _) (aw_52 e _) h.1 dX7_readsPaint_98 (fun S12 eS12 => ?_)
          replace h := h.2 S12 eS12
          refine m_aload_n dX7_readsPaint_99 1 rfl rfl ?_
          refine m_get 49 4 (o_49 e _) rfl inlX7 (by decide) q5_16 rfl dX7_readsPaint_100 ?_
          refine m_bipush (v := 39) dX7_readsPaint_103 (by decide) ?_
          refine m_iload_n dX7_readsPaint_105 2 rfl rfl ?_
          refine m_iadd dX7_readsPaint_106 ?_
          refine m_iload dX7_readsPaint_107 0 rfl ?_
          refine m_iast 52 (a_52 e _) (aw_52 e _) h.1 dX7_readsPaint_109 (fun S13 eS13 => ?_)
          replace h := h.2 S13 eS13
          refine m_aload_n dX7_readsPaint_110 1 rfl rfl ?_
          refine m_get 49 4 (o_49 e _) rfl inlX7 (by decide) q5_16 rfl dX7_readsPaint_111 ?_
          refine m_iconst (v := 2) dX7_readsPaint_114 (by decide) ?_
          refine m_dup2 dX7_readsPaint_115 rfl rfl ?_
          refine m_iald 52 (a_52 e _) h.1 dX7_readsPaint_116 ?_
          replace h := h.2
          refine m_iconst (v := 1) dX7_readsPaint_117 (by decide) ?_
          refine m_iadd dX7_readsPaint_118 ?_
          refine m_iast 52 (a_52 e _) (aw_52 e _) h.1 dX7_readsPaint_119 (fun S14 eS14 => ?_)
          replace h := h.2 S14 eS14
          refine m_iconst (v := 1) dX7_readsPaint_120 (by decide) ?_
          exact m_zret hR rfl ⟨_, rfl, h⟩ dX7_readsPaint_121
        · replace h := h.2 z
          refine m_iconst (v := 0) dX7_readsPaint_77 (by decide) ?_
          exact m_zret hR rfl ⟨_, rfl, h⟩ dX7_readsPaint_78
      refine m_icmp_ne (tgt := 62) dX7_readsPaint_54 (by decide) (fun z => ?_) (fun z => ?_)
      · replace h := h.1 z
        refine m_aload_n dX7_readsPaint_62 1 rfl rfl ?_
        refine m_iconst (v := 1) dX7_readsPaint_63 (by decide) ?_
        refine m_iconst (v := 5) dX7_readsPaint_64 (by decide) ?_
        refine m_callV 49 [.int (1 : Int32), .int (5 : Int32)] (c_X7_figure h) (o_49 e _) rfl rfl q7_18 q7_19 q7_20 q1_5 q7_21 t_X7_figure rfl (by omega) (by decide) (Nat.le_of_ble_eq_true rfl) rfl dX7_readsPaint_65 (kI (P := MW Z e cX7_readsPaint 5 RX7 5 68 [(3, .int x7), (0, .ref (e.2.2.1 49)), (1, .int x1), (2, .int x4)]) (fun r15 S16 h => ?_))
        refine m_loc [1, 2, 3, 0] rfl ?_
        exact kJ8 S16 r15 h
      · replace h := h.2 z
        refine m_bipush (v := -9) dX7_readsPaint_57 (by decide) ?_
        refine m_goto (tgt := 68) dX7_readsPaint_59 (by decide) ?_
        refine m_loc [1, 2, 3, 0] rfl ?_
        exact kJ8 S6 (-9 : Int32) h
    refine m_icmp_ne (tgt := 43) dX7_readsPaint_35 (by decide) (fun z => ?_) (fun z => ?_)
    · replace h := h.1 z
      refine m_aload_n dX7_readsPaint_43 1 rfl rfl ?_
      refine m_iconst (v := 0) dX7_readsPaint_44 (by decide) ?_
      refine m_bipush (v := 9) dX7_readsPaint_45 (by decide) ?_
      refine m_callV 49 [.int (0 : Int32), .int (9 : Int32)] (c_X7_figure h) (o_49 e _) rfl rfl q7_18 q7_19 q7_20 q1_5 q7_21 t_X7_figure rfl (by omega) (by decide) (Nat.le_of_ble_eq_true rfl) rfl dX7_readsPaint_47 (kI (P := MW Z e cX7_readsPaint 5 RX7 5 50 [(2, .int x4), (0, .ref (e.2.2.1 49)), (1, .int x1)]) (fun r17 S18 h => ?_))
      refine m_loc [1, 2, 0] rfl ?_
      exact kJ5 S18 r17 h
    · replace h := h.2 z
      refine m_bipush (v := -9) dX7_readsPaint_38 (by decide) ?_
      refine m_goto (tgt := 50) dX7_readsPaint_40 (by decide) ?_
      refine m_loc [1, 2, 0] rfl ?_
      exact kJ5 S3 (-9 : Int32) h
  refine m_icmp_ne (tgt := 18) dX7_readsPaint_10 (by decide) (fun z => ?_) (fun z => ?_)
  · replace h := h.1 z
    refine m_aload_n dX7_readsPaint_18 1 rfl rfl ?_
    refine m_iconst (v := 0) dX7_readsPaint_19 (by decide) ?_
    refine m_aload_n dX7_readsPaint_20 1 rfl rfl ?_
    refine m_get 49 4 (o_49 e _) rfl inlX7 (by decide) q5_16 rfl dX7_readsPaint_21 ?_
    refine m_iconst (v := 0) dX7_readsPaint_24 (by decide) ?_
    refine m_iald 52 (a_52 e _) h.1 dX7_readsPaint_25 ?_
    replace h := h.2
    refine m_iconst (v := 1) dX7_readsPaint_26 (by decide) ?_
    refine m_isub dX7_readsPaint_27 ?_
    refine m_callV 49 [.int (0 : Int32), .int ((S0.1 52 (0 : Int32).toNatClampNeg) - (1 : Int32))] (c_X7_figure h) (o_49 e _) rfl rfl q7_18 q7_19 q7_20 q1_5 q7_21 t_X7_figure rfl (by omega) (by decide) (Nat.le_of_ble_eq_true rfl) rfl dX7_readsPaint_28 (kI (P := MW Z e cX7_readsPaint 5 RX7 5 31 [(1, .int x1), (0, .ref (e.2.2.1 49))]) (fun r19 S20 h => ?_))
    refine m_loc [1, 0] rfl ?_
    exact kJ2 S20 r19 h
  · replace h := h.2 z
    refine m_bipush (v := -9) dX7_readsPaint_13 (by decide) ?_
    refine m_goto (tgt := 31) dX7_readsPaint_15 (by decide) ?_
    refine m_loc [1, 0] rfl ?_
    exact kJ2 S0 (-9 : Int32) h
def w_X7_readsRain (S0 : St)  (Q : Int32 → St → Prop) : Prop :=
  (w_X7_figure S0 (0 : Int32) (9 : Int32)  (fun r1 S2 => (∀ J3 : St → Int32 → Prop, J3 = (fun (S4 : St) (x5 : Int32) => ((¬ x5 = (-9 : Int32) → (vp_in ((13 : Int32) + r1) 47 ∧ ∀ S6 : St, S6 = setA S4 52 (upd (S4.1 52) ((13 : Int32) + r1).toNatClampNeg x5) → Q (1 : Int32) S6)) ∧ (x5 = (-9 : Int32) → Q (0 : Int32) S4))) → ((¬ r1 = (-9 : Int32) → (w_X7_figure S2 (0 : Int32) (3 : Int32)  (fun r7 S8 => J3 S8 r7))) ∧ (r1 = (-9 : Int32) → J3 S2 (-9 : Int32))))))
set_option maxRecDepth 100000 in
set_option maxHeartbeats 4000000 in
theorem c_X7_readsRain {e : GE} {S0 : St}  {Q : Int32 → St → Prop} (h : w_X7_readsRain S0  Q) : CT e yX7_readsRain cX7_readsRain 3 (some .boolean) 5 [.ref (e.2.2.1 49)] S0 (pI Q) := by
  refine CT.of (by decide) (Nat.le_of_ble_eq_true rfl) (fun Z hR => ?_)
  rw [w_X7_readsRain] at h
  show MW Z e cX7_readsRain 3 RX7 5 0 [(0, .ref (e.2.2.1 49))] [] S0
  refine m_aload_n dX7_readsRain_0 0 rfl rfl ?_
  refine m_iconst (v := 0) dX7_readsRain_1 (by decide) ?_
  refine m_bipush (v := 9) dX7_readsRain_2 (by decide) ?_
  refine m_callV 49 [.int (0 : Int32), .int (9 : Int32)] (c_X7_figure h) (o_49 e _) rfl rfl q7_18 q7_19 q7_20 q1_5 q7_21 t_X7_figure rfl (by omega) (by decide) (Nat.le_of_ble_eq_true rfl) rfl dX7_readsRain_4 (kI (P := MW Z e cX7_readsRain 3 RX7 5 7 [(0, .ref (e.2.2.1 49))]) (fun r1 S2 h => ?_))
  refine m_istore_n (lv2 := [(1, .int r1), (0, .ref (e.2.2.1 49))]) dX7_readsRain_7 rfl (by decide) rfl ?_
  refine m_iload_n dX7_readsRain_8 0 rfl rfl ?_
  refine m_bipush (v := -9) dX7_readsRain_9 (by decide) ?_
  obtain ⟨J3, eJ3, h⟩ := jn h
  have kJ3 : ∀ (S4 : St) (x5 : Int32), J3 S4 x5 → MW Z e cX7_readsRain 3 RX7 5 25 [(0, .ref (e.2.2.1 49)), (1, .int r1)] [.int x5] S4 := by
    intro S4 x5 h
    rw [eJ3] at h
    refine m_istore_n (lv2 := [(2, .int x5), (0, .ref (e.2.2.1 49)), (1, .int r1)]) dX7_readsRain_25 rfl (by decide) rfl ?_
    refine m_iload_n dX7_readsRain_26 0 rfl rfl ?_
    refine m_bipush (v := -9) dX7_readsRain_27 (by decide) ?_
    refine m_icmp_ne (tgt := 34) dX7_readsRain_29 (by decide) (fun z => ?_) (fun z => ?_)
    · replace h := h.1 z
      refine m_aload_n dX7_readsRain_34 1 rfl rfl ?_
      refine m_get 49 4 (o_49 e _) rfl inlX7 (by decide) q5_16 rfl dX7_readsRain_35 ?_
      refine m_bipush (v := 13) dX7_readsRain_38 (by decide) ?_
      refine m_iload_n dX7_readsRain_40 2 rfl rfl ?_
      refine m_iadd dX7_readsRain_41 ?_
      refine m_iload_n dX7_readsRain_42 0 rfl rfl ?_
      refine m_iast 52 (a_52 e _) (aw_52 e _) h.1 dX7_readsRain_43 (fun S6 eS6 => ?_)
      replace h := h.2 S6 eS6
      refine m_iconst (v := 1) dX7_readsRain_44 (by decide) ?_
      exact m_zret hR rfl ⟨_, rfl, h⟩ dX7_readsRain_45
    · replace h := h.2 z
      refine m_iconst (v := 0) dX7_readsRain_32 (by decide) ?_
      exact m_zret hR rfl ⟨_, rfl, h⟩ dX7_readsRain_33
  refine m_icmp_ne (tgt := 19) dX7_readsRain_11 (by decide) (fun z => ?_) (fun z => ?_)
  · replace h := h.1 z
    refine m_aload_n dX7_readsRain_19 1 rfl rfl ?_
    refine m_iconst (v := 0) dX7_readsRain_20 (by decide) ?_
    refine m_iconst (v := 3) dX7_readsRain_21 (by decide) ?_
    refine m_callV 49 [.int (0 : Int32), .int (3 : Int32)] (c_X7_figure h) (o_49 e _) rfl rfl q7_18 q7_19 q7_20 q1_5 q7_21 t_X7_figure rfl (by omega) (by decide) (Nat.le_of_ble_eq_true rfl) rfl dX7_readsRain_22 (kI (P := MW Z e cX7_readsRain 3 RX7 5 25 [(1, .int r1), (0, .ref (e.2.2.1 49))]) (fun r7 S8 h => ?_))
    refine m_loc [1, 0] rfl ?_
    exact kJ3 S8 r7 h
  · replace h := h.2 z
    refine m_bipush (v := -9) dX7_readsRain_14 (by decide) ?_
    refine m_goto (tgt := 25) dX7_readsRain_16 (by decide) ?_
    refine m_loc [1, 0] rfl ?_
    exact kJ3 S2 (-9 : Int32) h
def w_X7_readsPerson (S0 : St)  (Q : Int32 → St → Prop) : Prop :=
  (vp_in (1 : Int32) 47 ∧ (∀ J1 : St → Int32 → Prop, J1 = (fun (S2 : St) (x3 : Int32) => ((¬ x3 = (-9 : Int32) → (vp_in (1 : Int32) 47 ∧ (vp_in ((10 : Int32) + (S2.1 52 (1 : Int32).toNatClampNeg)) 47 ∧ ∀ S4 : St, S4 = setA S2 52 (upd (S2.1 52) ((10 : Int32) + (S2.1 52 (1 : Int32).toNatClampNeg)).toNatClampNeg x3) → (vp_in (1 : Int32) 47 ∧ (vp_in (1 : Int32) 47 ∧ ∀ S5 : St, S5 = setA S4 52 (upd (S4.1 52) (1 : Int32).toNatClampNeg ((S4.1 52 (1 : Int32).toNatClampNeg) + (1 : Int32))) → Q (1 : Int32) S5))))) ∧ (x3 = (-9 : Int32) → Q (0 : Int32) S2))) → ((¬ (S0.1 52 (1 : Int32).toNatClampNeg) = (3 : Int32) → (w_X7_figure S0 (1 : Int32) (9 : Int32)  (fun r6 S7 => J1 S7 r6))) ∧ ((S0.1 52 (1 : Int32).toNatClampNeg) = (3 : Int32) → J1 S0 (-9 : Int32)))))
set_option maxRecDepth 100000 in
set_option maxHeartbeats 4000000 in
theorem c_X7_readsPerson {e : GE} {S0 : St}  {Q : Int32 → St → Prop} (h : w_X7_readsPerson S0  Q) : CT e yX7_readsPerson cX7_readsPerson 2 (some .boolean) 5 [.ref (e.2.2.1 49)] S0 (pI Q) := by
  refine CT.of (by decide) (Nat.le_of_ble_eq_true rfl) (fun Z hR => ?_)
  rw [w_X7_readsPerson] at h
  show MW Z e cX7_readsPerson 2 RX7 5 0 [(0, .ref (e.2.2.1 49))] [] S0
  refine m_aload_n dX7_readsPerson_0 0 rfl rfl ?_
  refine m_get 49 4 (o_49 e _) rfl inlX7 (by decide) q5_16 rfl dX7_readsPerson_1 ?_
  refine m_iconst (v := 1) dX7_readsPerson_4 (by decide) ?_
  refine m_iald 52 (a_52 e _) h.1 dX7_readsPerson_5 ?_
  replace h := h.2
  refine m_iconst (v := 3) dX7_readsPerson_6 (by decide) ?_
  obtain ⟨J1, eJ1, h⟩ := jn h
  have kJ1 : ∀ (S2 : St) (x3 : Int32), J1 S2 x3 → MW Z e cX7_readsPerson 2 RX7 5 22 [(0, .ref (e.2.2.1 49))] [.int x3] S2 := by
    intro S2 x3 h
    rw [eJ1] at h
    refine m_istore_n (lv2 := [(1, .int x3), (0, .ref (e.2.2.1 49))]) dX7_readsPerson_22 rfl (by decide) rfl ?_
    refine m_iload_n dX7_readsPerson_23 0 rfl rfl ?_
    refine m_bipush (v := -9) dX7_readsPerson_24 (by decide) ?_
    refine m_icmp_ne (tgt := 31) dX7_readsPerson_26 (by decide) (fun z => ?_) (fun z => ?_)
    · replace h := h.1 z
      refine m_aload_n dX7_readsPerson_31 1 rfl rfl ?_
      refine m_get 49 4 (o_49 e _) rfl inlX7 (by decide) q5_16 rfl dX7_readsPerson_32 ?_
      refine m_bipush (v := 10) dX7_readsPerson_35 (by decide) ?_
      refine m_aload_n dX7_readsPerson_37 1 rfl rfl ?_
      refine m_get 49 4 (o_49 e _) rfl inlX7 (by decide) q5_16 rfl dX7_readsPerson_38 ?_
      refine m_iconst (v := 1) dX7_readsPerson_41 (by decide) ?_
      refine m_iald 52 (a_52 e _) h.1 dX7_readsPerson_42 ?_
      replace h := h.2
      refine m_iadd dX7_readsPerson_43 ?_
      refine m_iload_n dX7_readsPerson_44 0 rfl rfl ?_
      refine m_iast 52 (a_52 e _) (aw_52 e _) h.1 dX7_readsPerson_45 (fun S4 eS4 => ?_)
      replace h := h.2 S4 eS4
      refine m_aload_n dX7_readsPerson_46 1 rfl rfl ?_
      refine m_get 49 4 (o_49 e _) rfl inlX7 (by decide) q5_16 rfl dX7_readsPerson_47 ?_
      refine m_iconst (v := 1) dX7_readsPerson_50 (by decide) ?_
      refine m_dup2 dX7_readsPerson_51 rfl rfl ?_
      refine m_iald 52 (a_52 e _) h.1 dX7_readsPerson_52 ?_
      replace h := h.2
      refine m_iconst (v := 1) dX7_readsPerson_53 (by decide) ?_
      refine m_iadd dX7_readsPerson_54 ?_
      refine m_iast 52 (a_52 e _) (aw_52 e _) h.1 dX7_readsPerson_55 (fun S5 eS5 => ?_)
      replace h := h.2 S5 eS5
      refine m_iconst (v := 1) dX7_readsPerson_56 (by decide) ?_
      exact m_zret hR rfl ⟨_, rfl, h⟩ dX7_readsPerson_57
    · replace h := h.2 z
      refine m_iconst (v := 0) dX7_readsPerson_29 (by decide) ?_
      exact m_zret hR rfl ⟨_, rfl, h⟩ dX7_readsPerson_30
  refine m_icmp_ne (tgt := 15) dX7_readsPerson_7 (by decide) (fun z => ?_) (fun z => ?_)
  · replace h := h.1 z
    refine m_aload_n dX7_readsPerson_15 0 rfl rfl ?_
    refine m_iconst (v := 1) dX7_readsPerson_16 (by decide) ?_
    refine m_bipush (v := 9) dX7_readsPerson_17 (by decide) ?_
    refine m_callV 49 [.int (1 : Int32), .int (9 : Int32)] (c_X7_figure h) (o_49 e _) rfl rfl q7_18 q7_19 q7_20 q1_5 q7_21 t_X7_figure rfl (by omega) (by decide) (Nat.le_of_ble_eq_true rfl) rfl dX7_readsPerson_19 (kI (P := MW Z e cX7_readsPerson 2 RX7 5 22 [(0, .ref (e.2.2.1 49))]) (fun r6 S7 h => ?_))
    exact kJ1 S7 r6 h
  · replace h := h.2 z
    refine m_bipush (v := -9) dX7_readsPerson_10 (by decide) ?_
    refine m_goto (tgt := 22) dX7_readsPerson_12 (by decide) ?_
    exact kJ1 S0 (-9 : Int32) h
def w_X7_readsBar (S0 : St)  (Q : Int32 → St → Prop) : Prop :=
  (vp_in (0 : Int32) 47 ∧ (∀ J1 : St → Int32 → Prop, J1 = (fun (S2 : St) (x3 : Int32) => ((¬ x3 = (-9 : Int32) → (vp_in (0 : Int32) 47 ∧ (vp_in ((4 : Int32) + (S2.1 52 (0 : Int32).toNatClampNeg)) 47 ∧ ∀ S4 : St, S4 = setA S2 52 (upd (S2.1 52) ((4 : Int32) + (S2.1 52 (0 : Int32).toNatClampNeg)).toNatClampNeg x3) → (vp_in (0 : Int32) 47 ∧ (vp_in (0 : Int32) 47 ∧ ∀ S5 : St, S5 = setA S4 52 (upd (S4.1 52) (0 : Int32).toNatClampNeg ((S4.1 52 (0 : Int32).toNatClampNeg) + (1 : Int32))) → Q (1 : Int32) S5))))) ∧ (x3 = (-9 : Int32) → Q (0 : Int32) S2))) → ((¬ (S0.1 52 (0 : Int32).toNatClampNeg) = (6 : Int32) → (w_X7_figure S0 (1 : Int32) (3 : Int32)  (fun r6 S7 => J1 S7 r6))) ∧ ((S0.1 52 (0 : Int32).toNatClampNeg) = (6 : Int32) → J1 S0 (-9 : Int32)))))
set_option maxRecDepth 100000 in
set_option maxHeartbeats 4000000 in
theorem c_X7_readsBar {e : GE} {S0 : St}  {Q : Int32 → St → Prop} (h : w_X7_readsBar S0  Q) : CT e yX7_readsBar cX7_readsBar 2 (some .boolean) 5 [.ref (e.2.2.1 49)] S0 (pI Q) := by
  refine CT.of (by decide) (Nat.le_of_ble_eq_true rfl) (fun Z hR => ?_)
  rw [w_X7_readsBar] at h
  show MW Z e cX7_readsBar 2 RX7 5 0 [(0, .ref (e.2.2.1 49))] [] S0
  refine m_aload_n dX7_readsBar_0 0 rfl rfl ?_
  refine m_get 49 4 (o_49 e _) rfl inlX7 (by decide) q5_16 rfl dX7_readsBar_1 ?_
  refine m_iconst (v := 0) dX7_readsBar_4 (by decide) ?_
  refine m_iald 52 (a_52 e _) h.1 dX7_readsBar_5 ?_
  replace h := h.2
  refine m_bipush (v := 6) dX7_readsBar_6 (by decide) ?_
  obtain ⟨J1, eJ1, h⟩ := jn h
  have kJ1 : ∀ (S2 : St) (x3 : Int32), J1 S2 x3 → MW Z e cX7_readsBar 2 RX7 5 22 [(0, .ref (e.2.2.1 49))] [.int x3] S2 := by
    intro S2 x3 h
    rw [eJ1] at h
    refine m_istore_n (lv2 := [(1, .int x3), (0, .ref (e.2.2.1 49))]) dX7_readsBar_22 rfl (by decide) rfl ?_
    refine m_iload_n dX7_readsBar_23 0 rfl rfl ?_
    refine m_bipush (v := -9) dX7_readsBar_24 (by decide) ?_
    refine m_icmp_ne (tgt := 31) dX7_readsBar_26 (by decide) (fun z => ?_) (fun z => ?_)
    · replace h := h.1 z
      refine m_aload_n dX7_readsBar_31 1 rfl rfl ?_
      refine m_get 49 4 (o_49 e _) rfl inlX7 (by decide) q5_16 rfl dX7_readsBar_32 ?_
      refine m_iconst (v := 4) dX7_readsBar_35 (by decide) ?_
      refine m_aload_n dX7_readsBar_36 1 rfl rfl ?_
      refine m_get 49 4 (o_49 e _) rfl inlX7 (by decide) q5_16 rfl dX7_readsBar_37 ?_
      refine m_iconst (v := 0) dX7_readsBar_40 (by decide) ?_
      refine m_iald 52 (a_52 e _) h.1 dX7_readsBar_41 ?_
      replace h := h.2
      refine m_iadd dX7_readsBar_42 ?_
      refine m_iload_n dX7_readsBar_43 0 rfl rfl ?_
      refine m_iast 52 (a_52 e _) (aw_52 e _) h.1 dX7_readsBar_44 (fun S4 eS4 => ?_)
      replace h := h.2 S4 eS4
      refine m_aload_n dX7_readsBar_45 1 rfl rfl ?_
      refine m_get 49 4 (o_49 e _) rfl inlX7 (by decide) q5_16 rfl dX7_readsBar_46 ?_
      refine m_iconst (v := 0) dX7_readsBar_49 (by decide) ?_
      refine m_dup2 dX7_readsBar_50 rfl rfl ?_
      refine m_iald 52 (a_52 e _) h.1 dX7_readsBar_51 ?_
      replace h := h.2
      refine m_iconst (v := 1) dX7_readsBar_52 (by decide) ?_
      refine m_iadd dX7_readsBar_53 ?_
      refine m_iast 52 (a_52 e _) (aw_52 e _) h.1 dX7_readsBar_54 (fun S5 eS5 => ?_)
      replace h := h.2 S5 eS5
      refine m_iconst (v := 1) dX7_readsBar_55 (by decide) ?_
      exact m_zret hR rfl ⟨_, rfl, h⟩ dX7_readsBar_56
    · replace h := h.2 z
      refine m_iconst (v := 0) dX7_readsBar_29 (by decide) ?_
      exact m_zret hR rfl ⟨_, rfl, h⟩ dX7_readsBar_30
  refine m_icmp_ne (tgt := 16) dX7_readsBar_8 (by decide) (fun z => ?_) (fun z => ?_)
  · replace h := h.1 z
    refine m_aload_n dX7_readsBar_16 0 rfl rfl ?_
    refine m_iconst (v := 1) dX7_readsBar_17 (by decide) ?_
    refine m_iconst (v := 3) dX7_readsBar_18 (by decide) ?_
    refine m_callV 49 [.int (1 : Int32), .int (3 : Int32)] (c_X7_figure h) (o_49 e _) rfl rfl q7_18 q7_19 q7_20 q1_5 q7_21 t_X7_figure rfl (by omega) (by decide) (Nat.le_of_ble_eq_true rfl) rfl dX7_readsBar_19 (kI (P := MW Z e cX7_readsBar 2 RX7 5 22 [(0, .ref (e.2.2.1 49))]) (fun r6 S7 h => ?_))
    exact kJ1 S7 r6 h
  · replace h := h.2 z
    refine m_bipush (v := -9) dX7_readsBar_11 (by decide) ?_
    refine m_goto (tgt := 22) dX7_readsBar_13 (by decide) ?_
    exact kJ1 S0 (-9 : Int32) h
def w_X7_readsItem (S0 : St) (p1 : Int32) (Q : Int32 → St → Prop) : Prop :=
  ((¬ p1 = 0 → ((¬ p1 = (1 : Int32) → ((¬ p1 = (2 : Int32) → ((¬ p1 = (3 : Int32) → Q (0 : Int32) S0) ∧ (p1 = (3 : Int32) → (w_X7_readsPaint S0  (fun r1 S2 => ((r1 = 0 → Q (0 : Int32) S2) ∧ (¬ r1 = 0 → Q (1 : Int32) S2))))))) ∧ (p1 = (2 : Int32) → (w_X7_readsRain S0  (fun r3 S4 => (zok r3 ∧ Q r3 S4)))))) ∧ (p1 = (1 : Int32) → (w_X7_readsPerson S0  (fun r5 S6 => (zok r5 ∧ Q r5 S6)))))) ∧ (p1 = 0 → (w_X7_readsBar S0  (fun r7 S8 => (zok r7 ∧ Q r7 S8)))))
set_option maxRecDepth 100000 in
set_option maxHeartbeats 4000000 in
theorem c_X7_readsItem {e : GE} {S0 : St} {p1 : Int32} {Q : Int32 → St → Prop} (h : w_X7_readsItem S0 p1 Q) : CT e yX7_readsItem cX7_readsItem 2 (some .boolean) 6 [.ref (e.2.2.1 49), .int p1] S0 (pI Q) := by
  refine CT.of (by decide) (Nat.le_of_ble_eq_true rfl) (fun Z hR => ?_)
  rw [w_X7_readsItem] at h
  show MW Z e cX7_readsItem 2 RX7 6 0 [(0, .ref (e.2.2.1 49)), (1, .int p1)] [] S0
  refine m_iload_n dX7_readsItem_0 1 rfl rfl ?_
  refine m_if_ne (tgt := 11) dX7_readsItem_1 (by decide) (fun z => ?_) (fun z => ?_)
  · replace h := h.1 z
    refine m_iload_n dX7_readsItem_11 1 rfl rfl ?_
    refine m_iconst (v := 1) dX7_readsItem_12 (by decide) ?_
    refine m_icmp_ne (tgt := 23) dX7_readsItem_13 (by decide) (fun z => ?_) (fun z => ?_)
    · replace h := h.1 z
      refine m_iload_n dX7_readsItem_23 1 rfl rfl ?_
      refine m_iconst (v := 2) dX7_readsItem_24 (by decide) ?_
      refine m_icmp_ne (tgt := 35) dX7_readsItem_25 (by decide) (fun z => ?_) (fun z => ?_)
      · replace h := h.1 z
        refine m_iload_n dX7_readsItem_35 1 rfl rfl ?_
        refine m_iconst (v := 3) dX7_readsItem_36 (by decide) ?_
        refine m_icmp_ne (tgt := 51) dX7_readsItem_37 (by decide) (fun z => ?_) (fun z => ?_)
        · replace h := h.1 z
          refine m_iconst (v := 0) dX7_readsItem_51 (by decide) ?_
          exact m_zret hR rfl ⟨_, rfl, h⟩ dX7_readsItem_52
        · replace h := h.2 z
          refine m_aload_n dX7_readsItem_40 0 rfl rfl ?_
          refine m_callV 49 [] (c_X7_readsPaint h) (o_49 e _) rfl rfl q8_6 q8_7 q8_8 q1_5 q8_9 t_X7_readsPaint rfl (by omega) (by decide) (Nat.le_of_ble_eq_true rfl) rfl dX7_readsItem_41 (kI (P := MW Z e cX7_readsItem 2 RX7 6 44 [(0, .ref (e.2.2.1 49)), (1, .int p1)]) (fun r1 S2 h => ?_))
          refine m_if_eq (tgt := 51) dX7_readsItem_44 (by decide) (fun z => ?_) (fun z => ?_)
          · replace h := h.1 z
            refine m_iconst (v := 0) dX7_readsItem_51 (by decide) ?_
            exact m_zret hR rfl ⟨_, rfl, h⟩ dX7_readsItem_52
          · replace h := h.2 z
            refine m_iconst (v := 1) dX7_readsItem_47 (by decide) ?_
            refine m_goto (tgt := 52) dX7_readsItem_48 (by decide) ?_
            exact m_zret hR rfl ⟨_, rfl, h⟩ dX7_readsItem_52
      · replace h := h.2 z
        refine m_aload_n dX7_readsItem_28 0 rfl rfl ?_
        refine m_callV 49 [] (c_X7_readsRain h) (o_49 e _) rfl rfl q8_2 q8_3 q8_4 q1_5 q8_5 t_X7_readsRain rfl (by omega) (by decide) (Nat.le_of_ble_eq_true rfl) rfl dX7_readsItem_29 (kI (P := MW Z e cX7_readsItem 2 RX7 6 32 [(0, .ref (e.2.2.1 49)), (1, .int p1)]) (fun r3 S4 h => ?_))
        refine m_goto (tgt := 52) dX7_readsItem_32 (by decide) ?_
        exact m_zret hR h.1 ⟨_, rfl, h.2⟩ dX7_readsItem_52
    · replace h := h.2 z
      refine m_aload_n dX7_readsItem_16 0 rfl rfl ?_
      refine m_callV 49 [] (c_X7_readsPerson h) (o_49 e _) rfl rfl q7_22 q7_23 q8_0 q1_5 q8_1 t_X7_readsPerson rfl (by omega) (by decide) (Nat.le_of_ble_eq_true rfl) rfl dX7_readsItem_17 (kI (P := MW Z e cX7_readsItem 2 RX7 6 20 [(0, .ref (e.2.2.1 49)), (1, .int p1)]) (fun r5 S6 h => ?_))
      refine m_goto (tgt := 52) dX7_readsItem_20 (by decide) ?_
      exact m_zret hR h.1 ⟨_, rfl, h.2⟩ dX7_readsItem_52
  · replace h := h.2 z
    refine m_aload_n dX7_readsItem_4 0 rfl rfl ?_
    refine m_callV 49 [] (c_X7_readsBar h) (o_49 e _) rfl rfl q7_14 q7_15 q7_16 q1_5 q7_17 t_X7_readsBar rfl (by omega) (by decide) (Nat.le_of_ble_eq_true rfl) rfl dX7_readsItem_5 (kI (P := MW Z e cX7_readsItem 2 RX7 6 8 [(0, .ref (e.2.2.1 49)), (1, .int p1)]) (fun r7 S8 h => ?_))
    refine m_goto (tgt := 52) dX7_readsItem_8 (by decide) ?_
    exact m_zret hR h.1 ⟨_, rfl, h.2⟩ dX7_readsItem_52
def X7_reads_L2 (kx : St → Prop) : Nat → St → Int32 → Prop
  | 0 => fun _ _ => False
  | n + 1 => (fun (rec : St → Int32 → Prop) => fun (S1 : St) (v2 : Int32) => (((47 : Int32) ≤ v2 → kx S1) ∧ (¬ (47 : Int32) ≤ v2 → (w_X7_in v2 (13 : Int32) (22 : Int32)  (fun r3 => ((r3 = 0 → (vp_in v2 47 ∧ ∀ S4 : St, S4 = setA S1 52 (upd (S1.1 52) v2.toNatClampNeg (0 : Int32)) → ∀ x5 : Int32, x5 = v2 + (1 : Int32) → rec S4 x5)) ∧ (¬ r3 = 0 → (vp_in v2 47 ∧ ∀ S6 : St, S6 = setA S1 52 (upd (S1.1 52) v2.toNatClampNeg (1 : Int32)) → ∀ x7 : Int32, x7 = v2 + (1 : Int32) → rec S6 x7)))))))) (X7_reads_L2 kx n)
def X7_reads_L45 (Q : Int32 → St → Prop) (kx : St → Prop) : Nat → St → Prop
  | 0 => fun _ => False
  | n + 1 => (fun (rec : St → Prop) => fun (S12 : St) => (((S12.1 5009 0) = 0 → kx S12) ∧ (¬ (S12.1 5009 0) = 0 → (w_X7_verb S12  (fun r13 => (w_X7_readsItem S12 r13  (fun r14 S15 => ((¬ r14 = 0 → (w_X7_token S15  (fun S16 => (((S16.1 5009 0) = (3 : Int32) → (vp_in (3 : Int32) 47 ∧ (vp_in (3 : Int32) 47 ∧ ∀ S17 : St, S17 = setA S16 52 (upd (S16.1 52) (3 : Int32).toNatClampNeg ((S16.1 52 (3 : Int32).toNatClampNeg) + (1 : Int32))) → (w_X7_token S17  (fun S18 => rec S18))))) ∧ (¬ (S16.1 5009 0) = (3 : Int32) → Q (0 : Int32) S16))))) ∧ (r14 = 0 → Q (0 : Int32) S15))))))))) (X7_reads_L45 Q kx n)
def w_X7_reads (S0 : St)  (Q : Int32 → St → Prop) : Prop :=
  (∃ n : Nat, X7_reads_L2 (fun (S9 : St) => ∀ S10 : St, S10 = setI S9 5008 (0 : Int32) → (w_X7_token S10 (fun S11 => (∃ n : Nat, X7_reads_L45 Q (fun (S20 : St) => Q (1 : Int32) S20) n S11)))) n S0 (0 : Int32))
set_option maxRecDepth 100000 in
set_option maxHeartbeats 4000000 in
theorem l_X7_reads_L2 {Z : Zt} {e : GE} {kx : St → Prop} (hk : ∀ (S8 : St), kx S8 → MW Z e cX7_reads 2 RX7 7 36 [(0, .ref (e.2.2.1 49))] [] S8) : ∀ (n : Nat) (S1 : St) (v2 : Int32), X7_reads_L2 kx n S1 v2 → MW Z e cX7_reads 2 RX7 7 2 [(0, .ref (e.2.2.1 49)), (1, .int v2)] [] S1 := by
  intro n
  induction n with
  | zero =>
    intro S1 v2 h
    exact h.elim
  | succ n ih =>
    intro S1 v2 h
    rw [X7_reads_L2] at h
    refine m_iload_n dX7_reads_2 1 rfl rfl ?_
    refine m_bipush (v := 47) dX7_reads_3 (by decide) ?_
    refine m_icmp_ge (tgt := 36) dX7_reads_5 (by decide) (fun z => ?_) (fun z => ?_)
    · replace h := h.1 z
      refine m_loc [0] rfl ?_
      exact hk S1 h
    · replace h := h.2 z
      refine m_aload_n dX7_reads_8 0 rfl rfl ?_
      refine m_get 49 4 (o_49 e _) rfl inlX7 (by decide) q5_16 rfl dX7_reads_9 ?_
      refine m_iload_n dX7_reads_12 1 rfl rfl ?_
      refine m_iload_n dX7_reads_13 1 rfl rfl ?_
      refine m_bipush (v := 13) dX7_reads_14 (by decide) ?_
      refine m_bipush (v := 22) dX7_reads_16 (by decide) ?_
      refine m_callS [.int v2, .int (13 : Int32), .int (22 : Int32)] (c_X7_in h) q6_8 q6_9 q1_5 q6_10 t_X7_in rfl (by omega) (by decide) (Nat.le_of_ble_eq_true rfl) rfl dX7_reads_18 (kR (P := MW Z e cX7_reads 2 RX7 7 21 [(0, .ref (e.2.2.1 49)), (1, .int v2)]) (fun r3 h => ?_))
      refine m_if_eq (tgt := 28) dX7_reads_21 (by decide) (fun z => ?_) (fun z => ?_)
      · replace h := h.1 z
        refine m_iconst (v := 0) dX7_reads_28 (by decide) ?_
        refine m_iast 52 (a_52 e _) (aw_52 e _) h.1 dX7_reads_29 (fun S4 eS4 => ?_)
        replace h := h.2 S4 eS4
        obtain ⟨x5, ex5⟩ : ∃ y : Int32, y = v2 + (1 : Int32) := ⟨_, rfl⟩
        replace h := h x5 ex5
        refine m_iinc (v := x5) (lv2 := [(1, .int x5), (0, .ref (e.2.2.1 49))]) dX7_reads_30 1 rfl ex5.symm (by decide) rfl ?_
        refine m_goto (tgt := 2) dX7_reads_33 (by decide) ?_
        refine m_loc [1, 0] rfl ?_
        exact ih S4 x5 h
      · replace h := h.2 z
        refine m_iconst (v := 1) dX7_reads_24 (by decide) ?_
        refine m_goto (tgt := 29) dX7_reads_25 (by decide) ?_
        refine m_iast 52 (a_52 e _) (aw_52 e _) h.1 dX7_reads_29 (fun S6 eS6 => ?_)
        replace h := h.2 S6 eS6
        obtain ⟨x7, ex7⟩ : ∃ y : Int32, y = v2 + (1 : Int32) := ⟨_, rfl⟩
        replace h := h x7 ex7
        refine m_iinc (v := x7) (lv2 := [(1, .int x7), (0, .ref (e.2.2.1 49))]) dX7_reads_30 1 rfl ex7.symm (by decide) rfl ?_
        refine m_goto (tgt := 2) dX7_reads_33 (by decide) ?_
        refine m_loc [1, 0] rfl ?_
        exact ih S6 x7 h
set_option maxRecDepth 100000 in
set_option maxHeartbeats 4000000 in
theorem l_X7_reads_L45 {Z : Zt} {e : GE} {Q : Int32 → St → Prop} {kx : St → Prop} (hR : RT Z e (some .boolean) (pI Q)) (hk : ∀ (S19 : St), kx S19 → MW Z e cX7_reads 2 RX7 7 96 [] [] S19) : ∀ (n : Nat) (S12 : St), X7_reads_L45 Q kx n S12 → MW Z e cX7_reads 2 RX7 7 45 [(0, .ref (e.2.2.1 49))] [] S12 := by
  intro n
  induction n with
  | zero =>
    intro S12 h
    exact h.elim
  | succ n ih =>
    intro S12 h
    rw [X7_reads_L45] at h
    refine m_aload_n dX7_reads_45 0 rfl rfl ?_
    refine m_get 49 9 (o_49 e _) rfl inlX7 (by decide) q6_7 rfl dX7_reads_46 ?_
    refine m_if_eq (tgt := 96) dX7_reads_49 (by decide) (fun z => ?_) (fun z => ?_)
    · replace h := h.1 z
      refine m_loc [] rfl ?_
      exact hk S12 h
    · replace h := h.2 z
      refine m_aload_n dX7_reads_52 0 rfl rfl ?_
      refine m_aload_n dX7_reads_53 0 rfl rfl ?_
      refine m_callV 49 [] (c_X7_verb h) (o_49 e _) rfl rfl q7_1 q7_2 q7_3 q1_5 q7_4 t_X7_verb rfl (by omega) (by decide) (Nat.le_of_ble_eq_true rfl) rfl dX7_reads_54 (kR (P := MW Z e cX7_reads 2 RX7 7 57 [(0, .ref (e.2.2.1 49))]) (fun r13 h => ?_))
      refine m_callV 49 [.int r13] (c_X7_readsItem h) (o_49 e _) rfl rfl q7_10 q7_11 q7_12 q1_5 q7_13 t_X7_readsItem rfl (by omega) (by decide) (Nat.le_of_ble_eq_true rfl) rfl dX7_reads_57 (kI (P := MW Z e cX7_reads 2 RX7 7 60 [(0, .ref (e.2.2.1 49))]) (fun r14 S15 h => ?_))
      refine m_if_ne (tgt := 65) dX7_reads_60 (by decide) (fun z => ?_) (fun z => ?_)
      · replace h := h.1 z
        refine m_aload_n dX7_reads_65 0 rfl rfl ?_
        refine m_callV 49 [] (c_X7_token h) (o_49 e _) rfl rfl q6_11 q6_12 q6_13 q1_5 q6_14 t_X7_token rfl (by omega) (by decide) (Nat.le_of_ble_eq_true rfl) rfl dX7_reads_66 (kV (P := MW Z e cX7_reads 2 RX7 7 69 [(0, .ref (e.2.2.1 49))]) (fun S16 h => ?_))
        refine m_aload_n dX7_reads_69 0 rfl rfl ?_
        refine m_get 49 9 (o_49 e _) rfl inlX7 (by decide) q6_7 rfl dX7_reads_70 ?_
        refine m_iconst (v := 3) dX7_reads_73 (by decide) ?_
        refine m_icmp_eq (tgt := 79) dX7_reads_74 (by decide) (fun z => ?_) (fun z => ?_)
        · replace h := h.1 z
          refine m_aload_n dX7_reads_79 0 rfl rfl ?_
          refine m_get 49 4 (o_49 e _) rfl inlX7 (by decide) q5_16 rfl dX7_reads_80 ?_
          refine m_iconst (v := 3) dX7_reads_83 (by decide) ?_
          refine m_dup2 dX7_reads_84 rfl rfl ?_
          refine m_iald 52 (a_52 e _) h.1 dX7_reads_85 ?_
          replace h := h.2
          refine m_iconst (v := 1) dX7_reads_86 (by decide) ?_
          refine m_iadd dX7_reads_87 ?_
          refine m_iast 52 (a_52 e _) (aw_52 e _) h.1 dX7_reads_88 (fun S17 eS17 => ?_)
          replace h := h.2 S17 eS17
          refine m_aload_n dX7_reads_89 0 rfl rfl ?_
          refine m_callV 49 [] (c_X7_token h) (o_49 e _) rfl rfl q6_11 q6_12 q6_13 q1_5 q6_14 t_X7_token rfl (by omega) (by decide) (Nat.le_of_ble_eq_true rfl) rfl dX7_reads_90 (kV (P := MW Z e cX7_reads 2 RX7 7 93 [(0, .ref (e.2.2.1 49))]) (fun S18 h => ?_))
          refine m_goto (tgt := 45) dX7_reads_93 (by decide) ?_
          exact ih S18 h
        · replace h := h.2 z
          refine m_iconst (v := 0) dX7_reads_77 (by decide) ?_
          exact m_zret hR rfl ⟨_, rfl, h⟩ dX7_reads_78
      · replace h := h.2 z
        refine m_iconst (v := 0) dX7_reads_63 (by decide) ?_
        exact m_zret hR rfl ⟨_, rfl, h⟩ dX7_reads_64
set_option maxRecDepth 100000 in
set_option maxHeartbeats 4000000 in
theorem c_X7_reads {e : GE} {S0 : St}  {Q : Int32 → St → Prop} (h : w_X7_reads S0  Q) : CT e yX7_reads cX7_reads 2 (some .boolean) 7 [.ref (e.2.2.1 49)] S0 (pI Q) := by
  refine CT.of (by decide) (Nat.le_of_ble_eq_true rfl) (fun Z hR => ?_)
  rw [w_X7_reads] at h
  show MW Z e cX7_reads 2 RX7 7 0 [(0, .ref (e.2.2.1 49))] [] S0
  refine m_iconst (v := 0) dX7_reads_0 (by decide) ?_
  refine m_istore_n (lv2 := [(1, .int (0 : Int32)), (0, .ref (e.2.2.1 49))]) dX7_reads_1 rfl (by decide) rfl ?_
  obtain ⟨n, h⟩ := h
  refine m_loc [1, 0] rfl ?_
  refine l_X7_reads_L2 (fun S9 h => ?_) n S0 (0 : Int32) h
  refine m_aload_n dX7_reads_36 0 rfl rfl ?_
  refine m_iconst (v := 0) dX7_reads_37 (by decide) ?_
  refine m_put (S2 := setI S9 5008 (0 : Int32)) 49 8 tyX7 tyX7_ok nmX7 (o_49 e _) rfl inlX7 (by decide) q6_6 rfl (tyX7_ok 8 (by decide)) rfl rfl (Nat.le_of_ble_eq_true rfl) (p_49_8 e _ _) dX7_reads_38 (fun S10 eS10 => ?_)
  replace h := h S10 eS10
  refine m_aload_n dX7_reads_41 0 rfl rfl ?_
  refine m_callV 49 [] (c_X7_token h) (o_49 e _) rfl rfl q6_11 q6_12 q6_13 q1_5 q6_14 t_X7_token rfl (by omega) (by decide) (Nat.le_of_ble_eq_true rfl) rfl dX7_reads_42 (kV (P := MW Z e cX7_reads 2 RX7 7 45 [(0, .ref (e.2.2.1 49))]) (fun S11 h => ?_))
  obtain ⟨n, h⟩ := h
  refine l_X7_reads_L45 hR (fun S20 h => ?_) n S11 h
  refine m_iconst (v := 1) dX7_reads_96 (by decide) ?_
  exact m_zret hR rfl ⟨_, rfl, h⟩ dX7_reads_97
def X7_tells_L2 (kx : St → Prop) : Nat → St → Int32 → Prop
  | 0 => fun _ _ => False
  | n + 1 => (fun (rec : St → Int32 → Prop) => fun (S1 : St) (v2 : Int32) => (((47 : Int32) ≤ v2 → kx S1) ∧ (¬ (47 : Int32) ≤ v2 → (vp_in v2 47 ∧ (vp_in v2 47 ∧ ∀ S3 : St, S3 = setA S1 51 (upd (S1.1 51) v2.toNatClampNeg (S1.1 52 v2.toNatClampNeg)) → ∀ x4 : Int32, x4 = v2 + (1 : Int32) → rec S3 x4))))) (X7_tells_L2 kx n)
def X7_tells_L35 (kx : St → Prop) : Nat → St → Int32 → Prop
  | 0 => fun _ _ => False
  | n + 1 => (fun (rec : St → Int32 → Prop) => fun (S8 : St) (v9 : Int32) => (((6 : Int32) ≤ v9 → kx S8) ∧ (¬ (6 : Int32) ≤ v9 → (vp_in ((49 : Int32) + v9) 55 ∧ ∀ S10 : St, S10 = setA S8 53 (upd (S8.1 53) ((49 : Int32) + v9).toNatClampNeg (-9 : Int32)) → ∀ x11 : Int32, x11 = v9 + (1 : Int32) → rec S10 x11)))) (X7_tells_L35 kx n)
def w_X7_tells (S0 : St)  (Q : St → Prop) : Prop :=
  (∃ n : Nat, X7_tells_L2 (fun (S6 : St) => (vp_in (0 : Int32) 55 ∧ ∀ S7 : St, S7 = setA S6 53 (upd (S6.1 53) (0 : Int32).toNatClampNeg (0 : Int32)) → (∃ n : Nat, X7_tells_L35 (fun (S13 : St) => (vp_in (0 : Int32) 2 ∧ ∀ S14 : St, S14 = setA S13 55 (upd (S13.1 55) (0 : Int32).toNatClampNeg (vp_nar .boolean (0 : Int32))) → (vp_in (1 : Int32) 2 ∧ ∀ S15 : St, S15 = setA S14 55 (upd (S14.1 55) (1 : Int32).toNatClampNeg (vp_nar .boolean (0 : Int32))) → Q S15))) n S7 (0 : Int32)))) n S0 (0 : Int32))
set_option maxRecDepth 100000 in
set_option maxHeartbeats 4000000 in
theorem l_X7_tells_L2 {Z : Zt} {e : GE} {kx : St → Prop} (hk : ∀ (S5 : St), kx S5 → MW Z e cX7_tells 2 RX7 1 26 [(0, .ref (e.2.2.1 49))] [] S5) : ∀ (n : Nat) (S1 : St) (v2 : Int32), X7_tells_L2 kx n S1 v2 → MW Z e cX7_tells 2 RX7 1 2 [(0, .ref (e.2.2.1 49)), (1, .int v2)] [] S1 := by
  intro n
  induction n with
  | zero =>
    intro S1 v2 h
    exact h.elim
  | succ n ih =>
    intro S1 v2 h
    rw [X7_tells_L2] at h
    refine m_iload_n dX7_tells_2 1 rfl rfl ?_
    refine m_bipush (v := 47) dX7_tells_3 (by decide) ?_
    refine m_icmp_ge (tgt := 26) dX7_tells_5 (by decide) (fun z => ?_) (fun z => ?_)
    · replace h := h.1 z
      refine m_loc [0] rfl ?_
      exact hk S1 h
    · replace h := h.2 z
      refine m_aload_n dX7_tells_8 0 rfl rfl ?_
      refine m_get 49 3 (o_49 e _) rfl inlX7 (by decide) q5_15 rfl dX7_tells_9 ?_
      refine m_iload_n dX7_tells_12 1 rfl rfl ?_
      refine m_aload_n dX7_tells_13 0 rfl rfl ?_
      refine m_get 49 4 (o_49 e _) rfl inlX7 (by decide) q5_16 rfl dX7_tells_14 ?_
      refine m_iload_n dX7_tells_17 1 rfl rfl ?_
      refine m_iald 52 (a_52 e _) h.1 dX7_tells_18 ?_
      replace h := h.2
      refine m_iast 51 (a_51 e _) (aw_51 e _) h.1 dX7_tells_19 (fun S3 eS3 => ?_)
      replace h := h.2 S3 eS3
      obtain ⟨x4, ex4⟩ : ∃ y : Int32, y = v2 + (1 : Int32) := ⟨_, rfl⟩
      replace h := h x4 ex4
      refine m_iinc (v := x4) (lv2 := [(1, .int x4), (0, .ref (e.2.2.1 49))]) dX7_tells_20 1 rfl ex4.symm (by decide) rfl ?_
      refine m_goto (tgt := 2) dX7_tells_23 (by decide) ?_
      refine m_loc [1, 0] rfl ?_
      exact ih S3 x4 h
set_option maxRecDepth 100000 in
set_option maxHeartbeats 4000000 in
theorem l_X7_tells_L35 {Z : Zt} {e : GE} {kx : St → Prop} (hk : ∀ (S12 : St), kx S12 → MW Z e cX7_tells 2 RX7 1 58 [(0, .ref (e.2.2.1 49))] [] S12) : ∀ (n : Nat) (S8 : St) (v9 : Int32), X7_tells_L35 kx n S8 v9 → MW Z e cX7_tells 2 RX7 1 35 [(0, .ref (e.2.2.1 49)), (1, .int v9)] [] S8 := by
  intro n
  induction n with
  | zero =>
    intro S8 v9 h
    exact h.elim
  | succ n ih =>
    intro S8 v9 h
    rw [X7_tells_L35] at h
    refine m_iload_n dX7_tells_35 1 rfl rfl ?_
    refine m_bipush (v := 6) dX7_tells_36 (by decide) ?_
    refine m_icmp_ge (tgt := 58) dX7_tells_38 (by decide) (fun z => ?_) (fun z => ?_)
    · replace h := h.1 z
      refine m_loc [0] rfl ?_
      exact hk S8 h
    · replace h := h.2 z
      refine m_aload_n dX7_tells_41 0 rfl rfl ?_
      refine m_get 49 5 (o_49 e _) rfl inlX7 (by decide) q5_17 rfl dX7_tells_42 ?_
      refine m_bipush (v := 49) dX7_tells_45 (by decide) ?_
      refine m_iload_n dX7_tells_47 1 rfl rfl ?_
      refine m_iadd dX7_tells_48 ?_
      refine m_bipush (v := -9) dX7_tells_49 (by decide) ?_
      refine m_iast 53 (a_53 e _) (aw_53 e _) h.1 dX7_tells_51 (fun S10 eS10 => ?_)
      replace h := h.2 S10 eS10
      obtain ⟨x11, ex11⟩ : ∃ y : Int32, y = v9 + (1 : Int32) := ⟨_, rfl⟩
      replace h := h x11 ex11
      refine m_iinc (v := x11) (lv2 := [(1, .int x11), (0, .ref (e.2.2.1 49))]) dX7_tells_52 1 rfl ex11.symm (by decide) rfl ?_
      refine m_goto (tgt := 35) dX7_tells_55 (by decide) ?_
      refine m_loc [1, 0] rfl ?_
      exact ih S10 x11 h
set_option maxRecDepth 100000 in
set_option maxHeartbeats 4000000 in
theorem c_X7_tells {e : GE} {S0 : St}  {Q : St → Prop} (h : w_X7_tells S0  Q) : CT e yX7_tells cX7_tells 2 none 1 [.ref (e.2.2.1 49)] S0 (pV Q) := by
  refine CT.of (by decide) (Nat.le_of_ble_eq_true rfl) (fun Z hR => ?_)
  rw [w_X7_tells] at h
  show MW Z e cX7_tells 2 RX7 1 0 [(0, .ref (e.2.2.1 49))] [] S0
  refine m_iconst (v := 0) dX7_tells_0 (by decide) ?_
  refine m_istore_n (lv2 := [(1, .int (0 : Int32)), (0, .ref (e.2.2.1 49))]) dX7_tells_1 rfl (by decide) rfl ?_
  obtain ⟨n, h⟩ := h
  refine m_loc [1, 0] rfl ?_
  refine l_X7_tells_L2 (fun S6 h => ?_) n S0 (0 : Int32) h
  refine m_aload_n dX7_tells_26 0 rfl rfl ?_
  refine m_get 49 5 (o_49 e _) rfl inlX7 (by decide) q5_17 rfl dX7_tells_27 ?_
  refine m_iconst (v := 0) dX7_tells_30 (by decide) ?_
  refine m_iconst (v := 0) dX7_tells_31 (by decide) ?_
  refine m_iast 53 (a_53 e _) (aw_53 e _) h.1 dX7_tells_32 (fun S7 eS7 => ?_)
  replace h := h.2 S7 eS7
  refine m_iconst (v := 0) dX7_tells_33 (by decide) ?_
  refine m_istore_n (lv2 := [(1, .int (0 : Int32)), (0, .ref (e.2.2.1 49))]) dX7_tells_34 rfl (by decide) rfl ?_
  obtain ⟨n, h⟩ := h
  refine m_loc [1, 0] rfl ?_
  refine l_X7_tells_L35 (fun S13 h => ?_) n S7 (0 : Int32) h
  refine m_aload_n dX7_tells_58 0 rfl rfl ?_
  refine m_get 49 7 (o_49 e _) rfl inlX7 (by decide) q5_19 rfl dX7_tells_59 ?_
  refine m_iconst (v := 0) dX7_tells_62 (by decide) ?_
  refine m_iconst (v := 0) dX7_tells_63 (by decide) ?_
  refine m_zast 55 (a_55 e _) (aw_55 e _) h.1 dX7_tells_64 (fun S14 eS14 => ?_)
  replace h := h.2 S14 eS14
  refine m_aload_n dX7_tells_65 0 rfl rfl ?_
  refine m_get 49 7 (o_49 e _) rfl inlX7 (by decide) q5_19 rfl dX7_tells_66 ?_
  refine m_iconst (v := 1) dX7_tells_69 (by decide) ?_
  refine m_iconst (v := 0) dX7_tells_70 (by decide) ?_
  refine m_zast 55 (a_55 e _) (aw_55 e _) h.1 dX7_tells_71 (fun S15 eS15 => ?_)
  replace h := h.2 S15 eS15
  exact m_vret hR ⟨rfl, h⟩ dX7_tells_72
def w_X7_square (S0 : St)  (Q : Int32 → St → Prop) : Prop :=
  (w_X7_reads S0  (fun r1 S2 => ((¬ r1 = 0 → (w_X7_tells S2  (fun S3 => ∀ S4 : St, S4 = setI S3 5002 (0 : Int32) → (vp_in (3 : Int32) 47 ∧ Q (S4.1 51 (3 : Int32).toNatClampNeg) S4)))) ∧ (r1 = 0 → Q ((-10 : Int32) - (S2.1 5010 0)) S2))))
set_option maxRecDepth 100000 in
set_option maxHeartbeats 4000000 in
theorem c_X7_square {e : GE} {S0 : St}  {Q : Int32 → St → Prop} (h : w_X7_square S0  Q) : CT e yX7_square cX7_square 1 (some .int) 8 [.ref (e.2.2.1 49)] S0 (pI Q) := by
  refine CT.of (by decide) (Nat.le_of_ble_eq_true rfl) (fun Z hR => ?_)
  rw [w_X7_square] at h
  show MW Z e cX7_square 1 RX7 8 0 [(0, .ref (e.2.2.1 49))] [] S0
  refine m_aload_n dX7_square_0 0 rfl rfl ?_
  refine m_callV 49 [] (c_X7_reads h) (o_49 e _) rfl rfl q6_2 q6_3 q6_4 q1_5 q6_5 t_X7_reads rfl (by omega) (by decide) (Nat.le_of_ble_eq_true rfl) rfl dX7_square_1 (kI (P := MW Z e cX7_square 1 RX7 8 4 [(0, .ref (e.2.2.1 49))]) (fun r1 S2 h => ?_))
  refine m_if_ne (tgt := 15) dX7_square_4 (by decide) (fun z => ?_) (fun z => ?_)
  · replace h := h.1 z
    refine m_aload_n dX7_square_15 0 rfl rfl ?_
    refine m_callV 49 [] (c_X7_tells h) (o_49 e _) rfl rfl q8_10 q8_11 q8_12 q1_5 q8_13 t_X7_tells rfl (by omega) (by decide) (Nat.le_of_ble_eq_true rfl) rfl dX7_square_16 (kV (P := MW Z e cX7_square 1 RX7 8 19 [(0, .ref (e.2.2.1 49))]) (fun S3 h => ?_))
    refine m_aload_n dX7_square_19 0 rfl rfl ?_
    refine m_iconst (v := 0) dX7_square_20 (by decide) ?_
    refine m_put (S2 := setI S3 5002 (0 : Int32)) 49 2 tyX7 tyX7_ok nmX7 (o_49 e _) rfl inlX7 (by decide) q6_21 rfl (tyX7_ok 2 (by decide)) rfl rfl (Nat.le_of_ble_eq_true rfl) (p_49_2 e _ _) dX7_square_21 (fun S4 eS4 => ?_)
    replace h := h S4 eS4
    refine m_aload_n dX7_square_24 0 rfl rfl ?_
    refine m_get 49 3 (o_49 e _) rfl inlX7 (by decide) q5_15 rfl dX7_square_25 ?_
    refine m_iconst (v := 3) dX7_square_28 (by decide) ?_
    refine m_iald 51 (a_51 e _) h.1 dX7_square_29 ?_
    replace h := h.2
    exact m_iret hR ⟨_, rfl, h⟩ dX7_square_30
  · replace h := h.2 z
    refine m_bipush (v := -10) dX7_square_7 (by decide) ?_
    refine m_aload_n dX7_square_9 0 rfl rfl ?_
    refine m_get 49 10 (o_49 e _) rfl inlX7 (by decide) q6_15 rfl dX7_square_10 ?_
    refine m_isub dX7_square_13 ?_
    exact m_iret hR ⟨_, rfl, h⟩ dX7_square_14
def w_X7_isBar (S0 : St) (p1 : Int32) (Q : Int32 → Prop) : Prop :=
  (vp_in (0 : Int32) 47 ∧ (w_X7_in p1 (0 : Int32) ((S0.1 51 (0 : Int32).toNatClampNeg) - (1 : Int32))  (fun r1 => (zok r1 ∧ Q r1))))
set_option maxRecDepth 100000 in
set_option maxHeartbeats 4000000 in
theorem c_X7_isBar {e : GE} {S0 : St} {p1 : Int32} {Q : Int32 → Prop} (h : w_X7_isBar S0 p1 Q) : CT e yX7_isBar cX7_isBar 2 (some .boolean) 2 [.ref (e.2.2.1 49), .int p1] S0 (pR S0 Q) := by
  refine CT.of (by decide) (Nat.le_of_ble_eq_true rfl) (fun Z hR => ?_)
  rw [w_X7_isBar] at h
  show MW Z e cX7_isBar 2 RX7 2 0 [(0, .ref (e.2.2.1 49)), (1, .int p1)] [] S0
  refine m_iload_n dX7_isBar_0 1 rfl rfl ?_
  refine m_iconst (v := 0) dX7_isBar_1 (by decide) ?_
  refine m_aload_n dX7_isBar_2 0 rfl rfl ?_
  refine m_get 49 3 (o_49 e _) rfl inlX7 (by decide) q5_15 rfl dX7_isBar_3 ?_
  refine m_iconst (v := 0) dX7_isBar_6 (by decide) ?_
  refine m_iald 51 (a_51 e _) h.1 dX7_isBar_7 ?_
  replace h := h.2
  refine m_iconst (v := 1) dX7_isBar_8 (by decide) ?_
  refine m_isub dX7_isBar_9 ?_
  refine m_callS [.int p1, .int (0 : Int32), .int ((S0.1 51 (0 : Int32).toNatClampNeg) - (1 : Int32))] (c_X7_in h) q6_8 q6_9 q1_5 q6_10 t_X7_in rfl (by omega) (by decide) (Nat.le_of_ble_eq_true rfl) rfl dX7_isBar_10 (kR (P := MW Z e cX7_isBar 2 RX7 2 13 [(0, .ref (e.2.2.1 49)), (1, .int p1)]) (fun r1 h => ?_))
  exact m_zret hR h.1 ⟨_, rfl, rfl, h.2⟩ dX7_isBar_13
def w_X7_bar (S0 : St) (p1 : Int32) (Q : Int32 → Prop) : Prop :=
  (w_X7_isBar S0 p1  (fun r1 => ((r1 = 0 → Q (-1 : Int32)) ∧ (¬ r1 = 0 → (vp_in ((4 : Int32) + p1) 47 ∧ Q (S0.1 51 ((4 : Int32) + p1).toNatClampNeg))))))
set_option maxRecDepth 100000 in
set_option maxHeartbeats 4000000 in
theorem c_X7_bar {e : GE} {S0 : St} {p1 : Int32} {Q : Int32 → Prop} (h : w_X7_bar S0 p1 Q) : CT e yX7_bar cX7_bar 2 (some .int) 3 [.ref (e.2.2.1 49), .int p1] S0 (pR S0 Q) := by
  refine CT.of (by decide) (Nat.le_of_ble_eq_true rfl) (fun Z hR => ?_)
  rw [w_X7_bar] at h
  show MW Z e cX7_bar 2 RX7 3 0 [(0, .ref (e.2.2.1 49)), (1, .int p1)] [] S0
  refine m_aload_n dX7_bar_0 0 rfl rfl ?_
  refine m_iload_n dX7_bar_1 1 rfl rfl ?_
  refine m_callV 49 [.int p1] (c_X7_isBar h) (o_49 e _) rfl rfl q16_4 q16_5 q16_6 q1_5 q16_7 t_X7_isBar rfl (by omega) (by decide) (Nat.le_of_ble_eq_true rfl) rfl dX7_bar_2 (kR (P := MW Z e cX7_bar 2 RX7 3 5 [(0, .ref (e.2.2.1 49)), (1, .int p1)]) (fun r1 h => ?_))
  refine m_if_eq (tgt := 19) dX7_bar_5 (by decide) (fun z => ?_) (fun z => ?_)
  · replace h := h.1 z
    refine m_iconst (v := -1) dX7_bar_19 (by decide) ?_
    exact m_iret hR ⟨_, rfl, rfl, h⟩ dX7_bar_20
  · replace h := h.2 z
    refine m_aload_n dX7_bar_8 0 rfl rfl ?_
    refine m_get 49 3 (o_49 e _) rfl inlX7 (by decide) q5_15 rfl dX7_bar_9 ?_
    refine m_iconst (v := 4) dX7_bar_12 (by decide) ?_
    refine m_iload_n dX7_bar_13 1 rfl rfl ?_
    refine m_iadd dX7_bar_14 ?_
    refine m_iald 51 (a_51 e _) h.1 dX7_bar_15 ?_
    replace h := h.2
    refine m_goto (tgt := 20) dX7_bar_16 (by decide) ?_
    exact m_iret hR ⟨_, rfl, rfl, h⟩ dX7_bar_20
def w_X7_isPerson (S0 : St) (p1 : Int32) (Q : Int32 → Prop) : Prop :=
  (vp_in (1 : Int32) 47 ∧ (w_X7_in p1 (0 : Int32) ((S0.1 51 (1 : Int32).toNatClampNeg) - (1 : Int32))  (fun r1 => (zok r1 ∧ Q r1))))
set_option maxRecDepth 100000 in
set_option maxHeartbeats 4000000 in
theorem c_X7_isPerson {e : GE} {S0 : St} {p1 : Int32} {Q : Int32 → Prop} (h : w_X7_isPerson S0 p1 Q) : CT e yX7_isPerson cX7_isPerson 2 (some .boolean) 2 [.ref (e.2.2.1 49), .int p1] S0 (pR S0 Q) := by
  refine CT.of (by decide) (Nat.le_of_ble_eq_true rfl) (fun Z hR => ?_)
  rw [w_X7_isPerson] at h
  show MW Z e cX7_isPerson 2 RX7 2 0 [(0, .ref (e.2.2.1 49)), (1, .int p1)] [] S0
  refine m_iload_n dX7_isPerson_0 1 rfl rfl ?_
  refine m_iconst (v := 0) dX7_isPerson_1 (by decide) ?_
  refine m_aload_n dX7_isPerson_2 0 rfl rfl ?_
  refine m_get 49 3 (o_49 e _) rfl inlX7 (by decide) q5_15 rfl dX7_isPerson_3 ?_
  refine m_iconst (v := 1) dX7_isPerson_6 (by decide) ?_
  refine m_iald 51 (a_51 e _) h.1 dX7_isPerson_7 ?_
  replace h := h.2
  refine m_iconst (v := 1) dX7_isPerson_8 (by decide) ?_
  refine m_isub dX7_isPerson_9 ?_
  refine m_callS [.int p1, .int (0 : Int32), .int ((S0.1 51 (1 : Int32).toNatClampNeg) - (1 : Int32))] (c_X7_in h) q6_8 q6_9 q1_5 q6_10 t_X7_in rfl (by omega) (by decide) (Nat.le_of_ble_eq_true rfl) rfl dX7_isPerson_10 (kR (P := MW Z e cX7_isPerson 2 RX7 2 13 [(0, .ref (e.2.2.1 49)), (1, .int p1)]) (fun r1 h => ?_))
  exact m_zret hR h.1 ⟨_, rfl, rfl, h.2⟩ dX7_isPerson_13
def w_X7_person (S0 : St) (p1 : Int32) (Q : Int32 → Prop) : Prop :=
  (w_X7_isPerson S0 p1  (fun r1 => ((r1 = 0 → Q (-1 : Int32)) ∧ (¬ r1 = 0 → (vp_in ((10 : Int32) + p1) 47 ∧ Q (S0.1 51 ((10 : Int32) + p1).toNatClampNeg))))))
set_option maxRecDepth 100000 in
set_option maxHeartbeats 4000000 in
theorem c_X7_person {e : GE} {S0 : St} {p1 : Int32} {Q : Int32 → Prop} (h : w_X7_person S0 p1 Q) : CT e yX7_person cX7_person 2 (some .int) 3 [.ref (e.2.2.1 49), .int p1] S0 (pR S0 Q) := by
  refine CT.of (by decide) (Nat.le_of_ble_eq_true rfl) (fun Z hR => ?_)
  rw [w_X7_person] at h
  show MW Z e cX7_person 2 RX7 3 0 [(0, .ref (e.2.2.1 49)), (1, .int p1)] [] S0
  refine m_aload_n dX7_person_0 0 rfl rfl ?_
  refine m_iload_n dX7_person_1 1 rfl rfl ?_
  refine m_callV 49 [.int p1] (c_X7_isPerson h) (o_49 e _) rfl rfl q16_21 q16_22 q16_23 q1_5 q17_0 t_X7_isPerson rfl (by omega) (by decide) (Nat.le_of_ble_eq_true rfl) rfl dX7_person_2 (kR (P := MW Z e cX7_person 2 RX7 3 5 [(0, .ref (e.2.2.1 49)), (1, .int p1)]) (fun r1 h => ?_))
  refine m_if_eq (tgt := 20) dX7_person_5 (by decide) (fun z => ?_) (fun z => ?_)
  · replace h := h.1 z
    refine m_iconst (v := -1) dX7_person_20 (by decide) ?_
    exact m_iret hR ⟨_, rfl, rfl, h⟩ dX7_person_21
  · replace h := h.2 z
    refine m_aload_n dX7_person_8 0 rfl rfl ?_
    refine m_get 49 3 (o_49 e _) rfl inlX7 (by decide) q5_15 rfl dX7_person_9 ?_
    refine m_bipush (v := 10) dX7_person_12 (by decide) ?_
    refine m_iload_n dX7_person_14 1 rfl rfl ?_
    refine m_iadd dX7_person_15 ?_
    refine m_iald 51 (a_51 e _) h.1 dX7_person_16 ?_
    replace h := h.2
    refine m_goto (tgt := 21) dX7_person_17 (by decide) ?_
    exact m_iret hR ⟨_, rfl, rfl, h⟩ dX7_person_21
