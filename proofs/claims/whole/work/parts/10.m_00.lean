def w_X6_within (p1 : Int32) (p2 : Int32) (p3 : Int32) (Q : Int32 → Prop) : Prop :=
  ((p1 < p2 → Q (0 : Int32)) ∧ (¬ p1 < p2 → ((p3 < p1 → Q (0 : Int32)) ∧ (¬ p3 < p1 → Q (1 : Int32)))))
set_option maxRecDepth 100000 in
set_option maxHeartbeats 4000000 in
theorem c_X6_within {e : GE} {S0 : St} {p1 : Int32} {p2 : Int32} {p3 : Int32} {Q : Int32 → Prop} (h : w_X6_within p1 p2 p3 Q) : CT e yX6_within cX6_within 3 (some .boolean) 1 [.int p1, .int p2, .int p3] S0 (pR S0 Q) := by
  refine CT.of (by decide) (Nat.le_of_ble_eq_true rfl) (fun Z hR => ?_)
  rw [w_X6_within] at h
  show MW Z e cX6_within 3 RX6 1 0 [(0, .int p1), (1, .int p2), (2, .int p3)] [] S0
  refine m_iload_n dX6_within_0 0 rfl rfl ?_
  refine m_iload_n dX6_within_1 1 rfl rfl ?_
  refine m_icmp_lt (tgt := 14) dX6_within_2 (by decide) (fun z => ?_) (fun z => ?_)
  · replace h := h.1 z
    refine m_iconst (v := 0) dX6_within_14 (by decide) ?_
    exact m_zret hR rfl ⟨_, rfl, rfl, h⟩ dX6_within_15
  · replace h := h.2 z
    refine m_iload_n dX6_within_5 0 rfl rfl ?_
    refine m_iload_n dX6_within_6 2 rfl rfl ?_
    refine m_icmp_gt (tgt := 14) dX6_within_7 (by decide) (fun z => ?_) (fun z => ?_)
    · replace h := h.1 z
      refine m_iconst (v := 0) dX6_within_14 (by decide) ?_
      exact m_zret hR rfl ⟨_, rfl, rfl, h⟩ dX6_within_15
    · replace h := h.2 z
      refine m_iconst (v := 1) dX6_within_10 (by decide) ?_
      refine m_goto (tgt := 15) dX6_within_11 (by decide) ?_
      exact m_zret hR rfl ⟨_, rfl, rfl, h⟩ dX6_within_15
def X4_append_L5 (f4 : Int64) (kx : St → Prop) : Nat → St → Int32 → Prop
  | 0 => fun _ _ => False
  | n + 1 => (fun (rec : St → Int32 → Prop) => fun (S2 : St) (v3 : Int32) => ((v3 < 0 → kx S2) ∧ (¬ v3 < 0 → (((300 : Int32) ≤ (S2.1 301 0) → kx S2) ∧ (¬ (300 : Int32) ≤ (S2.1 301 0) → (vp_in (S2.1 301 0) 300 ∧ ∀ S5 : St, S5 = setA S2 3 (upd (S2.1 3) (S2.1 301 0).toNatClampNeg (vp_nar .byte ((((f4.toUInt64 >>> (((8 : Int32) * v3).toInt64.toUInt64 &&& Int64.toUInt64 63)).toInt64).toInt32).toInt8.toInt32))) → ∀ S6 : St, S6 = setI S5 301 ((S5.1 301 0) + (1 : Int32)) → ∀ x7 : Int32, x7 = v3 + (-1 : Int32) → rec S6 x7)))))) (X4_append_L5 f4 kx n)
def w_X4_append (S0 : St) (p1 : Int64) (p2 : Int32) (Q : St → Prop) : Prop :=
  ∀ x1 : Int32, x1 = p2 - (1 : Int32) → (∃ n : Nat, X4_append_L5 p1 (fun (S9 : St) => Q S9) n S0 x1)
set_option maxRecDepth 100000 in
set_option maxHeartbeats 4000000 in
theorem l_X4_append_L5 {Z : Zt} {e : GE} {f4 : Int64} {kx : St → Prop} (hk : ∀ (S8 : St), kx S8 → MW Z e cX4_append 5 RX4 1 54 [] [] S8) : ∀ (n : Nat) (S2 : St) (v3 : Int32), X4_append_L5 f4 kx n S2 v3 → MW Z e cX4_append 5 RX4 1 5 [(0, .ref (e.2.2.1 2)), (1, .long f4), (4, .int v3)] [] S2 := by
  intro n
  induction n with
  | zero =>
    intro S2 v3 h
    exact h.elim
  | succ n ih =>
    intro S2 v3 h
    rw [X4_append_L5] at h
    refine m_iload dX4_append_5 2 rfl ?_
    refine m_if_lt (tgt := 54) dX4_append_7 (by decide) (fun z => ?_) (fun z => ?_)
    · replace h := h.1 z
      refine m_loc [] rfl ?_
      exact hk S2 h
    · replace h := h.2 z
      refine m_aload_n dX4_append_10 0 rfl rfl ?_
      refine m_get 2 1 (o_2 e _) rfl inlX4 (by decide) q3_9 rfl dX4_append_11 ?_
      refine m_sipush (v := 300) dX4_append_14 (by decide) ?_
      refine m_icmp_ge (tgt := 54) dX4_append_17 (by decide) (fun z => ?_) (fun z => ?_)
      · replace h := h.1 z
        refine m_loc [] rfl ?_
        exact hk S2 h
      · replace h := h.2 z
        refine m_aload_n dX4_append_20 0 rfl rfl ?_
        refine m_get 2 0 (o_2 e _) rfl inlX4 (by decide) q3_8 rfl dX4_append_21 ?_
        refine m_aload_n dX4_append_24 0 rfl rfl ?_
        refine m_get 2 1 (o_2 e _) rfl inlX4 (by decide) q3_9 rfl dX4_append_25 ?_
        refine m_lload_n dX4_append_28 1 rfl rfl ?_
        refine m_bipush (v := 8) dX4_append_29 (by decide) ?_
        refine m_iload dX4_append_31 2 rfl ?_
        refine m_imul dX4_append_33 ?_
        refine m_lushr dX4_append_34 ?_
        refine m_l2i dX4_append_35 ?_
        refine m_i2b dX4_append_36 ?_
        refine m_bast 3 (a_3 e _) (aw_3 e _) h.1 dX4_append_37 (fun S5 eS5 => ?_)
        replace h := h.2 S5 eS5
        refine m_aload_n dX4_append_38 0 rfl rfl ?_
        refine m_dup dX4_append_39 rfl ?_
        refine m_get 2 1 (o_2 e _) rfl inlX4 (by decide) q3_9 rfl dX4_append_40 ?_
        refine m_iconst (v := 1) dX4_append_43 (by decide) ?_
        refine m_iadd dX4_append_44 ?_
        refine m_put (S2 := setI S5 301 ((S5.1 301 0) + (1 : Int32))) 2 1 tyX4 tyX4_ok nmX4 (o_2 e _) rfl inlX4 (by decide) q3_9 rfl (tyX4_ok 1 (by decide)) rfl rfl (Nat.le_of_ble_eq_true rfl) (p_2_1 e _ _) dX4_append_45 (fun S6 eS6 => ?_)
        replace h := h S6 eS6
        obtain ⟨x7, ex7⟩ : ∃ y : Int32, y = v3 + (-1 : Int32) := ⟨_, rfl⟩
        replace h := h x7 ex7
        refine m_iinc (v := x7) (lv2 := [(4, .int x7), (0, .ref (e.2.2.1 2)), (1, .long f4)]) dX4_append_48 2 rfl ex7.symm (by decide) rfl ?_
        refine m_goto (tgt := 5) dX4_append_51 (by decide) ?_
        refine m_loc [1, 2, 0] rfl ?_
        exact ih S6 x7 h
set_option maxRecDepth 100000 in
set_option maxHeartbeats 4000000 in
theorem c_X4_append {e : GE} {S0 : St} {p1 : Int64} {p2 : Int32} {Q : St → Prop} (h : w_X4_append S0 p1 p2 Q) : CT e yX4_append cX4_append 5 none 1 [.ref (e.2.2.1 2), .long p1, .int p2] S0 (pV Q) := by
  refine CT.of (by decide) (Nat.le_of_ble_eq_true rfl) (fun Z hR => ?_)
  rw [w_X4_append] at h
  show MW Z e cX4_append 5 RX4 1 0 [(0, .ref (e.2.2.1 2)), (1, .long p1), (3, .int p2)] [] S0
  refine m_iload_n dX4_append_0 2 rfl rfl ?_
  refine m_iconst (v := 1) dX4_append_1 (by decide) ?_
  refine m_isub dX4_append_2 ?_
  refine m_topi (fun x1 ex1 => ?_)
  replace h := h x1 ex1
  refine m_istore (lv2 := [(4, .int x1), (0, .ref (e.2.2.1 2)), (1, .long p1), (3, .int p2)]) dX4_append_3 (by decide) rfl ?_
  obtain ⟨n, h⟩ := h
  refine m_loc [1, 2, 0] rfl ?_
  refine l_X4_append_L5 (fun S9 h => ?_) n S0 x1 h
  exact m_vret hR ⟨rfl, h⟩ dX4_append_54
def w_X6_type (S0 : St) (p1 : Int64) (p2 : Int32) (Q : Int32 → St → Prop) : Prop :=
  (w_X6_within p2 (1 : Int32) (8 : Int32)  (fun r1 => ((¬ r1 = 0 → ((((S0.1 301 0) + p2) ≤ (300 : Int32) → (w_X4_append S0 p1 p2  (fun S2 => Q (S2.1 301 0) S2))) ∧ (¬ ((S0.1 301 0) + p2) ≤ (300 : Int32) → Q (-3 : Int32) S0))) ∧ (r1 = 0 → Q (-1 : Int32) S0))))
set_option maxRecDepth 100000 in
set_option maxHeartbeats 4000000 in
theorem c_X6_type {e : GE} {S0 : St} {p1 : Int64} {p2 : Int32} {Q : Int32 → St → Prop} (h : w_X6_type S0 p1 p2 Q) : CT e yX6_type cX6_type 4 (some .int) 2 [.ref (e.2.2.1 0), .long p1, .int p2] S0 (pI Q) := by
  refine CT.of (by decide) (Nat.le_of_ble_eq_true rfl) (fun Z hR => ?_)
  rw [w_X6_type] at h
  show MW Z e cX6_type 4 RX6 2 0 [(0, .ref (e.2.2.1 0)), (1, .long p1), (3, .int p2)] [] S0
  refine m_iload_n dX6_type_0 2 rfl rfl ?_
  refine m_iconst (v := 1) dX6_type_1 (by decide) ?_
  refine m_bipush (v := 8) dX6_type_2 (by decide) ?_
  refine m_callS [.int p2, .int (1 : Int32), .int (8 : Int32)] (c_X6_within h) q8_19 q8_20 q1_2 q8_21 t_X6_within rfl (by omega) (by decide) (Nat.le_of_ble_eq_true rfl) rfl dX6_type_4 (kR (P := MW Z e cX6_type 4 RX6 2 7 [(0, .ref (e.2.2.1 0)), (1, .long p1), (3, .int p2)]) (fun r1 h => ?_))
  refine m_if_ne (tgt := 12) dX6_type_7 (by decide) (fun z => ?_) (fun z => ?_)
  · replace h := h.1 z
    refine m_aload_n dX6_type_12 0 rfl rfl ?_
    refine m_get 0 1 (o_0 e _) rfl inlX6 (by decide) q1_18 rfl dX6_type_13 ?_
    refine m_get 2 1 (o_2 e _) rfl inlX4 (by decide) q8_18 rfl dX6_type_16 ?_
    refine m_iload_n dX6_type_19 2 rfl rfl ?_
    refine m_iadd dX6_type_20 ?_
    refine m_sipush (v := 300) dX6_type_21 (by decide) ?_
    refine m_icmp_le (tgt := 30) dX6_type_24 (by decide) (fun z => ?_) (fun z => ?_)
    · replace h := h.1 z
      refine m_aload_n dX6_type_30 0 rfl rfl ?_
      refine m_get 0 1 (o_0 e _) rfl inlX6 (by decide) q1_18 rfl dX6_type_31 ?_
      refine m_lload_n dX6_type_34 1 rfl rfl ?_
      refine m_iload_n dX6_type_35 2 rfl rfl ?_
      refine m_callV 2 [.long p1, .int p2] (c_X4_append h) (o_2 e _) rfl rfl q8_22 q8_23 q9_0 q2_20 q9_1 t_X4_append rfl (by omega) (by decide) (Nat.le_of_ble_eq_true rfl) rfl dX6_type_36 (kV (P := MW Z e cX6_type 4 RX6 2 39 [(0, .ref (e.2.2.1 0)), (1, .long p1), (3, .int p2)]) (fun S2 h => ?_))
      refine m_aload_n dX6_type_39 0 rfl rfl ?_
      refine m_get 0 1 (o_0 e _) rfl inlX6 (by decide) q1_18 rfl dX6_type_40 ?_
      refine m_get 2 1 (o_2 e _) rfl inlX4 (by decide) q8_18 rfl dX6_type_43 ?_
      exact m_iret hR ⟨_, rfl, h⟩ dX6_type_46
    · replace h := h.2 z
      refine m_bipush (v := -3) dX6_type_27 (by decide) ?_
      exact m_iret hR ⟨_, rfl, h⟩ dX6_type_29
  · replace h := h.2 z
    refine m_iconst (v := -1) dX6_type_10 (by decide) ?_
    exact m_iret hR ⟨_, rfl, h⟩ dX6_type_11
def w_X6_clear (S0 : St)  (Q : Int32 → St → Prop) : Prop :=
  ∀ x1 : Int32, x1 = S0.1 301 0 → ∀ S2 : St, S2 = setI S0 301 (0 : Int32) → Q x1 S2
set_option maxRecDepth 100000 in
set_option maxHeartbeats 4000000 in
theorem c_X6_clear {e : GE} {S0 : St}  {Q : Int32 → St → Prop} (h : w_X6_clear S0  Q) : CT e yX6_clear cX6_clear 2 (some .int) 1 [.ref (e.2.2.1 0)] S0 (pI Q) := by
  refine CT.of (by decide) (Nat.le_of_ble_eq_true rfl) (fun Z hR => ?_)
  rw [w_X6_clear] at h
  show MW Z e cX6_clear 2 RX6 1 0 [(0, .ref (e.2.2.1 0))] [] S0
  refine m_aload_n dX6_clear_0 0 rfl rfl ?_
  refine m_get 0 1 (o_0 e _) rfl inlX6 (by decide) q1_18 rfl dX6_clear_1 ?_
  refine m_get 2 1 (o_2 e _) rfl inlX4 (by decide) q8_18 rfl dX6_clear_4 ?_
  refine m_topi (fun x1 ex1 => ?_)
  replace h := h x1 ex1
  refine m_istore_n (lv2 := [(1, .int x1), (0, .ref (e.2.2.1 0))]) dX6_clear_7 rfl (by decide) rfl ?_
  refine m_aload_n dX6_clear_8 1 rfl rfl ?_
  refine m_get 0 1 (o_0 e _) rfl inlX6 (by decide) q1_18 rfl dX6_clear_9 ?_
  refine m_iconst (v := 0) dX6_clear_12 (by decide) ?_
  refine m_put (S2 := setI S0 301 (0 : Int32)) 2 1 tyX4 tyX4_ok nmX4 (o_2 e _) rfl inlX4 (by decide) q8_18 rfl (tyX4_ok 1 (by decide)) rfl rfl (Nat.le_of_ble_eq_true rfl) (p_2_1 e _ _) dX6_clear_13 (fun S2 eS2 => ?_)
  replace h := h S2 eS2
  refine m_iload_n dX6_clear_16 0 rfl rfl ?_
  exact m_iret hR ⟨_, rfl, h⟩ dX6_clear_17
def w_X2_empty (S0 : St)  (Q : St → Prop) : Prop :=
  ∀ S1 : St, S1 = setI S0 500 (0 : Int32) → ∀ S2 : St, S2 = setI S1 501 (0 : Int32) → ∀ S3 : St, S3 = setI S2 502 (0 : Int32) → (∀ S4 : St, S4 = setA S3 7 (fun _ => (1 : Int32)) → Q S4)
set_option maxRecDepth 100000 in
set_option maxHeartbeats 4000000 in
theorem c_X2_empty {e : GE} {S0 : St}  {Q : St → Prop} (h : w_X2_empty S0  Q) : CT e yX2_empty cX2_empty 1 none 4 [.ref (e.2.2.1 4)] S0 (pV Q) := by
  refine CT.of (by decide) (Nat.le_of_ble_eq_true rfl) (fun Z hR => ?_)
  rw [w_X2_empty] at h
  show MW Z e cX2_empty 1 RX2 4 0 [(0, .ref (e.2.2.1 4))] [] S0
  refine m_aload_n dX2_empty_0 0 rfl rfl ?_
  refine m_iconst (v := 0) dX2_empty_1 (by decide) ?_
  refine m_put (S2 := setI S0 500 (0 : Int32)) 4 0 tyX2 tyX2_ok nmX2 (o_4 e _) rfl inlX2 (by decide) q3_14 rfl (tyX2_ok 0 (by decide)) rfl rfl (Nat.le_of_ble_eq_true rfl) (p_4_0 e _ _) dX2_empty_2 (fun S1 eS1 => ?_)
  replace h := h S1 eS1
  refine m_aload_n dX2_empty_5 0 rfl rfl ?_
  refine m_iconst (v := 0) dX2_empty_6 (by decide) ?_
  refine m_put (S2 := setI S1 501 (0 : Int32)) 4 1 tyX2 tyX2_ok nmX2 (o_4 e _) rfl inlX2 (by decide) q3_15 rfl (tyX2_ok 1 (by decide)) rfl rfl (Nat.le_of_ble_eq_true rfl) (p_4_1 e _ _) dX2_empty_7 (fun S2 eS2 => ?_)
  replace h := h S2 eS2
  refine m_aload_n dX2_empty_10 0 rfl rfl ?_
  refine m_iconst (v := 0) dX2_empty_11 (by decide) ?_
  refine m_put (S2 := setI S2 502 (0 : Int32)) 4 2 tyX2 tyX2_ok nmX2 (o_4 e _) rfl inlX2 (by decide) q3_16 rfl (tyX2_ok 2 (by decide)) rfl rfl (Nat.le_of_ble_eq_true rfl) (p_4_2 e _ _) dX2_empty_12 (fun S3 eS3 => ?_)
  replace h := h S3 eS3
  refine m_aload_n dX2_empty_15 0 rfl rfl ?_
  refine m_get 4 5 (o_4 e _) rfl inlX2 (by decide) q3_20 rfl dX2_empty_16 ?_
  refine m_iconst (v := 1) dX2_empty_19 (by decide) ?_
  refine m_callS [.ref (e.2.2.1 7), .int (1 : Int32)] c_fill_7 q4_0 q4_1 q4_2 q4_3 t_fill rfl (by omega) (by decide) (Nat.le_of_ble_eq_true rfl) rfl dX2_empty_20 (kV (P := MW Z e cX2_empty 1 RX2 4 23 [(0, .ref (e.2.2.1 4))]) (fun S4 eS4 => ?_))
  replace h := h S4 eS4
  exact m_vret hR ⟨rfl, h⟩ dX2_empty_23
def X4_behindRow_L3 (S4 : St) (f2 : Int32) (f3 : Int32) (kx : Int32 → Prop) : Nat → Int32 → Prop
  | 0 => fun _ => False
  | n + 1 => (fun (rec : Int32 → Prop) => fun (v1 : Int32) => (((S4.1 301 0) ≤ v1 → kx v1) ∧ (¬ (S4.1 301 0) ≤ v1 → (vp_in v1 300 ∧ (w_X6_within (S4.1 3 v1.toNatClampNeg) f2 f3  (fun r5 => ((r5 = 0 → kx v1) ∧ (¬ r5 = 0 → ∀ x6 : Int32, x6 = v1 + (1 : Int32) → rec x6)))))))) (X4_behindRow_L3 S4 f2 f3 kx n)
def w_X4_behindRow (S0 : St) (p1 : Int32) (p2 : Int32) (p3 : Int32) (Q : Int32 → Prop) : Prop :=
  (∃ n : Nat, X4_behindRow_L3 S0 p2 p3 (fun (v8 : Int32) => Q v8) n p1)
set_option maxRecDepth 100000 in
set_option maxHeartbeats 4000000 in
theorem l_X4_behindRow_L3 {Z : Zt} {e : GE} {S4 : St} {f2 : Int32} {f3 : Int32} {kx : Int32 → Prop} (hk : ∀ (v7 : Int32), kx v7 → MW Z e cX4_behindRow 5 RX4 2 33 [(4, .int v7)] [] S4) : ∀ (n : Nat) (v1 : Int32), X4_behindRow_L3 S4 f2 f3 kx n v1 → MW Z e cX4_behindRow 5 RX4 2 3 [(0, .ref (e.2.2.1 2)), (2, .int f2), (3, .int f3), (4, .int v1)] [] S4 := by
  intro n
  induction n with
  | zero =>
    intro v1 h
    exact h.elim
  | succ n ih =>
    intro v1 h
    rw [X4_behindRow_L3] at h
    refine m_iload dX4_behindRow_3 3 rfl ?_
    refine m_aload_n dX4_behindRow_5 0 rfl rfl ?_
    refine m_get 2 1 (o_2 e _) rfl inlX4 (by decide) q3_9 rfl dX4_behindRow_6 ?_
    refine m_icmp_ge (tgt := 33) dX4_behindRow_9 (by decide) (fun z => ?_) (fun z => ?_)
    · replace h := h.1 z
      refine m_loc [3] rfl ?_
      exact hk v1 h
    · replace h := h.2 z
      refine m_aload_n dX4_behindRow_12 0 rfl rfl ?_
      refine m_get 2 0 (o_2 e _) rfl inlX4 (by decide) q3_8 rfl dX4_behindRow_13 ?_
      refine m_iload dX4_behindRow_16 3 rfl ?_
      refine m_bald 3 (a_3 e _) h.1 dX4_behindRow_18 ?_
      replace h := h.2
      refine m_iload_n dX4_behindRow_19 1 rfl rfl ?_
      refine m_iload_n dX4_behindRow_20 2 rfl rfl ?_
      refine m_callSN [.int (S4.1 3 v1.toNatClampNeg), .int f2, .int f3] (c_X6_within h) nk_4_19 q8_20 q1_2 q8_21 t_X6_within rfl (by omega) (by decide) (Nat.le_of_ble_eq_true rfl) rfl dX4_behindRow_21 (kR (P := MW Z e cX4_behindRow 5 RX4 2 24 [(0, .ref (e.2.2.1 2)), (2, .int f2), (3, .int f3), (4, .int v1)]) (fun r5 h => ?_))
      refine m_if_eq (tgt := 33) dX4_behindRow_24 (by decide) (fun z => ?_) (fun z => ?_)
      · replace h := h.1 z
        refine m_loc [3] rfl ?_
        exact hk v1 h
      · replace h := h.2 z
        obtain ⟨x6, ex6⟩ : ∃ y : Int32, y = v1 + (1 : Int32) := ⟨_, rfl⟩
        replace h := h x6 ex6
        refine m_iinc (v := x6) (lv2 := [(4, .int x6), (0, .ref (e.2.2.1 2)), (2, .int f2), (3, .int f3)]) dX4_behindRow_27 3 rfl ex6.symm (by decide) rfl ?_
        refine m_goto (tgt := 3) dX4_behindRow_30 (by decide) ?_
        refine m_loc [1, 2, 3, 0] rfl ?_
        exact ih x6 h
set_option maxRecDepth 100000 in
set_option maxHeartbeats 4000000 in
theorem c_X4_behindRow {e : GE} {S0 : St} {p1 : Int32} {p2 : Int32} {p3 : Int32} {Q : Int32 → Prop} (h : w_X4_behindRow S0 p1 p2 p3 Q) : CT e yX4_behindRow cX4_behindRow 5 (some .int) 2 [.ref (e.2.2.1 2), .int p1, .int p2, .int p3] S0 (pR S0 Q) := by
  refine CT.of (by decide) (Nat.le_of_ble_eq_true rfl) (fun Z hR => ?_)
  rw [w_X4_behindRow] at h
  show MW Z e cX4_behindRow 5 RX4 2 0 [(0, .ref (e.2.2.1 2)), (1, .int p1), (2, .int p2), (3, .int p3)] [] S0
  refine m_iload_n dX4_behindRow_0 1 rfl rfl ?_
  refine m_istore (lv2 := [(4, .int p1), (0, .ref (e.2.2.1 2)), (1, .int p1), (2, .int p2), (3, .int p3)]) dX4_behindRow_1 (by decide) rfl ?_
  obtain ⟨n, h⟩ := h
  refine m_loc [1, 3, 4, 0] rfl ?_
  refine l_X4_behindRow_L3 (fun v8 h => ?_) n p1 h
  refine m_iload dX4_behindRow_33 0 rfl ?_
  exact m_iret hR ⟨_, rfl, rfl, h⟩ dX4_behindRow_35
def w_X4_isSign (S0 : St) (p1 : Int32) (p2 : Int32) (Q : Int32 → Prop) : Prop :=
  (w_X6_within p1 (0 : Int32) ((S0.1 301 0) - (1 : Int32))  (fun r1 => ((r1 = 0 → Q (0 : Int32)) ∧ (¬ r1 = 0 → (vp_in p1 300 ∧ ((¬ (S0.1 3 p1.toNatClampNeg) = p2 → Q (0 : Int32)) ∧ ((S0.1 3 p1.toNatClampNeg) = p2 → Q (1 : Int32))))))))
set_option maxRecDepth 100000 in
set_option maxHeartbeats 4000000 in
theorem c_X4_isSign {e : GE} {S0 : St} {p1 : Int32} {p2 : Int32} {Q : Int32 → Prop} (h : w_X4_isSign S0 p1 p2 Q) : CT e yX4_isSign cX4_isSign 3 (some .boolean) 2 [.ref (e.2.2.1 2), .int p1, .int p2] S0 (pR S0 Q) := by
  refine CT.of (by decide) (Nat.le_of_ble_eq_true rfl) (fun Z hR => ?_)
  rw [w_X4_isSign] at h
  show MW Z e cX4_isSign 3 RX4 2 0 [(0, .ref (e.2.2.1 2)), (1, .int p1), (2, .int p2)] [] S0
  refine m_iload_n dX4_isSign_0 1 rfl rfl ?_
  refine m_iconst (v := 0) dX4_isSign_1 (by decide) ?_
  refine m_aload_n dX4_isSign_2 0 rfl rfl ?_
  refine m_get 2 1 (o_2 e _) rfl inlX4 (by decide) q3_9 rfl dX4_isSign_3 ?_
  refine m_iconst (v := 1) dX4_isSign_6 (by decide) ?_
  refine m_isub dX4_isSign_7 ?_
  refine m_callSN [.int p1, .int (0 : Int32), .int ((S0.1 301 0) - (1 : Int32))] (c_X6_within h) nk_4_19 q8_20 q1_2 q8_21 t_X6_within rfl (by omega) (by decide) (Nat.le_of_ble_eq_true rfl) rfl dX4_isSign_8 (kR (P := MW Z e cX4_isSign 3 RX4 2 11 [(0, .ref (e.2.2.1 2)), (1, .int p1), (2, .int p2)]) (fun r1 h => ?_))
  refine m_if_eq (tgt := 28) dX4_isSign_11 (by decide) (fun z => ?_) (fun z => ?_)
  · replace h := h.1 z
    refine m_iconst (v := 0) dX4_isSign_28 (by decide) ?_
    exact m_zret hR rfl ⟨_, rfl, rfl, h⟩ dX4_isSign_29
  · replace h := h.2 z
    refine m_aload_n dX4_isSign_14 0 rfl rfl ?_
    refine m_get 2 0 (o_2 e _) rfl inlX4 (by decide) q3_8 rfl dX4_isSign_15 ?_
    refine m_iload_n dX4_isSign_18 1 rfl rfl ?_
    refine m_bald 3 (a_3 e _) h.1 dX4_isSign_19 ?_
    replace h := h.2
    refine m_iload_n dX4_isSign_20 2 rfl rfl ?_
    refine m_icmp_ne (tgt := 28) dX4_isSign_21 (by decide) (fun z => ?_) (fun z => ?_)
    · replace h := h.1 z
      refine m_iconst (v := 0) dX4_isSign_28 (by decide) ?_
      exact m_zret hR rfl ⟨_, rfl, rfl, h⟩ dX4_isSign_29
    · replace h := h.2 z
      refine m_iconst (v := 1) dX4_isSign_24 (by decide) ?_
      refine m_goto (tgt := 29) dX4_isSign_25 (by decide) ?_
      exact m_zret hR rfl ⟨_, rfl, rfl, h⟩ dX4_isSign_29
def X4_numberIn_L14 (S5 : St) (f3 : Int32) (f4 : Int32) (Q : Int32 → Prop) (kx : Int32 → Prop) : Nat → Int32 → Int32 → Prop
  | 0 => fun _ _ => False
  | n + 1 => (fun (rec : Int32 → Int32 → Prop) => fun (v1 : Int32) (v2 : Int32) => ((f4 ≤ v2 → kx v1) ∧ (¬ f4 ≤ v2 → (((S5.1 301 0) ≤ v2 → kx v1) ∧ (¬ (S5.1 301 0) ≤ v2 → (∀ J6 : Int32 → Prop, J6 = (fun (x7 : Int32) => ((x7 = 0 → (vp_in v2 300 ∧ ∀ x8 : Int32, x8 = (((10 : Int32) * v1) + (S5.1 3 v2.toNatClampNeg)) - (48 : Int32) → ∀ x9 : Int32, x9 = v2 + (1 : Int32) → rec x8 x9)) ∧ (¬ x7 = 0 → Q (-1 : Int32)))) → ∀ J10 : Prop, J10 = (J6 (0 : Int32)) → ((v2 ≤ f3 → J10) ∧ (¬ v2 ≤ f3 → ((¬ v1 = 0 → J10) ∧ (v1 = 0 → J6 (1 : Int32))))))))))) (X4_numberIn_L14 S5 f3 f4 Q kx n)
def w_X4_numberIn (S0 : St) (p1 : Int32) (p2 : Int32) (Q : Int32 → Prop) : Prop :=
  (((p2 - p1) ≤ (2 : Int32) → (∃ n : Nat, X4_numberIn_L14 S0 p1 p2 Q (fun (v12 : Int32) => Q v12) n (0 : Int32) p1)) ∧ (¬ (p2 - p1) ≤ (2 : Int32) → Q (-1 : Int32)))
set_option maxRecDepth 100000 in
set_option maxHeartbeats 4000000 in
theorem l_X4_numberIn_L14 {Z : Zt} {e : GE} {S5 : St} {f3 : Int32} {f4 : Int32} {Q : Int32 → Prop} {kx : Int32 → Prop} (hR : RT Z e (some .int) (pR S5 Q)) (hk : ∀ (v11 : Int32), kx v11 → MW Z e cX4_numberIn 6 RX4 1 75 [(3, .int v11)] [] S5) : ∀ (n : Nat) (v1 : Int32) (v2 : Int32), X4_numberIn_L14 S5 f3 f4 Q kx n v1 v2 → MW Z e cX4_numberIn 6 RX4 1 14 [(0, .ref (e.2.2.1 2)), (1, .int f3), (2, .int f4), (3, .int v1), (4, .int v2)] [] S5 := by
  intro n
  induction n with
  | zero =>
    intro v1 v2 h
    exact h.elim
  | succ n ih =>
    intro v1 v2 h
    rw [X4_numberIn_L14] at h
    refine m_iload dX4_numberIn_14 4 rfl ?_
    refine m_iload_n dX4_numberIn_16 2 rfl rfl ?_
    refine m_icmp_ge (tgt := 75) dX4_numberIn_17 (by decide) (fun z => ?_) (fun z => ?_)
    · replace h := h.1 z
      refine m_loc [3] rfl ?_
      exact hk v1 h
    · replace h := h.2 z
      refine m_iload dX4_numberIn_20 4 rfl ?_
      refine m_aload_n dX4_numberIn_22 0 rfl rfl ?_
      refine m_get 2 1 (o_2 e _) rfl inlX4 (by decide) q3_9 rfl dX4_numberIn_23 ?_
      refine m_icmp_ge (tgt := 75) dX4_numberIn_26 (by decide) (fun z => ?_) (fun z => ?_)
      · replace h := h.1 z
        refine m_loc [3] rfl ?_
        exact hk v1 h
      · replace h := h.2 z
        refine m_iload dX4_numberIn_29 4 rfl ?_
        refine m_iload_n dX4_numberIn_31 1 rfl rfl ?_
        obtain ⟨J6, eJ6, h⟩ := jn h
        have kJ6 : ∀ (x7 : Int32), J6 x7 → MW Z e cX4_numberIn 6 RX4 1 44 [(0, .ref (e.2.2.1 2)), (1, .int f3), (2, .int f4), (3, .int v1), (4, .int v2)] [.int x7] S5 := by
          intro x7 h
          rw [eJ6] at h
          refine m_istore (lv2 := [(5, .int x7), (0, .ref (e.2.2.1 2)), (1, .int f3), (2, .int f4), (3, .int v1), (4, .int v2)]) dX4_numberIn_44 (by decide) rfl ?_
          refine m_iload dX4_numberIn_46 0 rfl ?_
          refine m_if_eq (tgt := 53) dX4_numberIn_48 (by decide) (fun z => ?_) (fun z => ?_)
          · replace h := h.1 z
            refine m_bipush (v := 10) dX4_numberIn_53 (by decide) ?_
            refine m_iload_n dX4_numberIn_55 4 rfl rfl ?_
            refine m_imul dX4_numberIn_56 ?_
            refine m_aload_n dX4_numberIn_57 1 rfl rfl ?_
            refine m_get 2 0 (o_2 e _) rfl inlX4 (by decide) q3_8 rfl dX4_numberIn_58 ?_
            refine m_iload dX4_numberIn_61 5 rfl ?_
            refine m_bald 3 (a_3 e _) h.1 dX4_numberIn_63 ?_
            replace h := h.2
            refine m_iadd dX4_numberIn_64 ?_
            refine m_bipush (v := 48) dX4_numberIn_65 (by decide) ?_
            refine m_isub dX4_numberIn_67 ?_
            refine m_topi (fun x8 ex8 => ?_)
            replace h := h x8 ex8
            refine m_istore_n (lv2 := [(3, .int x8), (5, .int x7), (0, .ref (e.2.2.1 2)), (1, .int f3), (2, .int f4), (4, .int v2)]) dX4_numberIn_68 rfl (by decide) rfl ?_
            obtain ⟨x9, ex9⟩ : ∃ y : Int32, y = v2 + (1 : Int32) := ⟨_, rfl⟩
            replace h := h x9 ex9
            refine m_iinc (v := x9) (lv2 := [(4, .int x9), (3, .int x8), (5, .int x7), (0, .ref (e.2.2.1 2)), (1, .int f3), (2, .int f4)]) dX4_numberIn_69 5 rfl ex9.symm (by decide) rfl ?_
            refine m_goto (tgt := 14) dX4_numberIn_72 (by decide) ?_
            refine m_loc [3, 4, 5, 1, 0] rfl ?_
            exact ih x8 x9 h
          · replace h := h.2 z
            refine m_iconst (v := -1) dX4_numberIn_51 (by decide) ?_
            exact m_iret hR ⟨_, rfl, rfl, h⟩ dX4_numberIn_52
        obtain ⟨J10, eJ10, h⟩ := jn h
        have kJ10 : J10 → MW Z e cX4_numberIn 6 RX4 1 43 [(0, .ref (e.2.2.1 2)), (1, .int f3), (2, .int f4), (3, .int v1), (4, .int v2)] [] S5 := by
          intro  h
          rw [eJ10] at h
          refine m_iconst (v := 0) dX4_numberIn_43 (by decide) ?_
          exact kJ6 (0 : Int32) h
        refine m_icmp_le (tgt := 43) dX4_numberIn_32 (by decide) (fun z => ?_) (fun z => ?_)
        · replace h := h.1 z
          exact kJ10  h
        · replace h := h.2 z
          refine m_iload_n dX4_numberIn_35 3 rfl rfl ?_
          refine m_if_ne (tgt := 43) dX4_numberIn_36 (by decide) (fun z => ?_) (fun z => ?_)
          · replace h := h.1 z
            exact kJ10  h
          · replace h := h.2 z
            refine m_iconst (v := 1) dX4_numberIn_39 (by decide) ?_
            refine m_goto (tgt := 44) dX4_numberIn_40 (by decide) ?_
            exact kJ6 (1 : Int32) h
set_option maxRecDepth 100000 in
set_option maxHeartbeats 4000000 in
theorem c_X4_numberIn {e : GE} {S0 : St} {p1 : Int32} {p2 : Int32} {Q : Int32 → Prop} (h : w_X4_numberIn S0 p1 p2 Q) : CT e yX4_numberIn cX4_numberIn 6 (some .int) 1 [.ref (e.2.2.1 2), .int p1, .int p2] S0 (pR S0 Q) := by
  refine CT.of (by decide) (Nat.le_of_ble_eq_true rfl) (fun Z hR => ?_)
  rw [w_X4_numberIn] at h
  show MW Z e cX4_numberIn 6 RX4 1 0 [(0, .ref (e.2.2.1 2)), (1, .int p1), (2, .int p2)] [] S0
  refine m_iload_n dX4_numberIn_0 2 rfl rfl ?_
  refine m_iload_n dX4_numberIn_1 1 rfl rfl ?_
  refine m_isub dX4_numberIn_2 ?_
  refine m_iconst (v := 2) dX4_numberIn_3 (by decide) ?_
  refine m_icmp_le (tgt := 9) dX4_numberIn_4 (by decide) (fun z => ?_) (fun z => ?_)
  · replace h := h.1 z
    refine m_iconst (v := 0) dX4_numberIn_9 (by decide) ?_
    refine m_istore_n (lv2 := [(3, .int (0 : Int32)), (0, .ref (e.2.2.1 2)), (1, .int p1), (2, .int p2)]) dX4_numberIn_10 rfl (by decide) rfl ?_
    refine m_iload_n dX4_numberIn_11 2 rfl rfl ?_
    refine m_istore (lv2 := [(4, .int p1), (3, .int (0 : Int32)), (0, .ref (e.2.2.1 2)), (1, .int p1), (2, .int p2)]) dX4_numberIn_12 (by decide) rfl ?_
    obtain ⟨n, h⟩ := h
    refine m_loc [2, 3, 4, 1, 0] rfl ?_
    refine l_X4_numberIn_L14 hR (fun v12 h => ?_) n (0 : Int32) p1 h
    refine m_iload_n dX4_numberIn_75 0 rfl rfl ?_
    exact m_iret hR ⟨_, rfl, rfl, h⟩ dX4_numberIn_76
  · replace h := h.2 z
    refine m_iconst (v := -1) dX4_numberIn_7 (by decide) ?_
    exact m_iret hR ⟨_, rfl, rfl, h⟩ dX4_numberIn_8
def w_X3_next (S0 : St)  (Q : St → Prop) : Prop :=
  (w_X4_behindRow S0 (S0.1 204 0) (32 : Int32) (32 : Int32)  (fun r1 => ∀ S2 : St, S2 = setI S0 203 r1 → (((S2.1 203 0) < (S2.1 301 0) → (w_X4_behindRow S2 (S2.1 203 0) (97 : Int32) (122 : Int32)  (fun r3 => ∀ S4 : St, S4 = setI S2 204 r3 → (((S4.1 204 0) ≤ (S4.1 203 0) → (w_X4_behindRow S4 (S4.1 203 0) (48 : Int32) (57 : Int32)  (fun r5 => ∀ S6 : St, S6 = setI S4 204 r5 → (((S6.1 204 0) ≤ (S6.1 203 0) → ∀ S7 : St, S7 = setI S6 204 ((S6.1 203 0) + (1 : Int32)) → (w_X4_isSign S7 (S7.1 203 0) (59 : Int32)  (fun r8 => ((r8 = 0 → ∀ S9 : St, S9 = setI S7 202 (4 : Int32) → Q S9) ∧ (¬ r8 = 0 → ∀ S10 : St, S10 = setI S7 202 (3 : Int32) → Q S10))))) ∧ (¬ (S6.1 204 0) ≤ (S6.1 203 0) → (w_X4_numberIn S6 (S6.1 203 0) (S6.1 204 0)  (fun r11 => ∀ S12 : St, S12 = setI S6 205 r11 → ((0 ≤ (S12.1 205 0) → ∀ S13 : St, S13 = setI S12 202 (2 : Int32) → Q S13) ∧ (¬ 0 ≤ (S12.1 205 0) → ∀ S14 : St, S14 = setI S12 202 (4 : Int32) → Q S14))))))))) ∧ (¬ (S4.1 204 0) ≤ (S4.1 203 0) → ∀ S15 : St, S15 = setI S4 202 (1 : Int32) → Q S15))))) ∧ (¬ (S2.1 203 0) < (S2.1 301 0) → ∀ S16 : St, S16 = setI S2 202 (0 : Int32) → Q S16))))
set_option maxRecDepth 100000 in
set_option maxHeartbeats 4000000 in
theorem c_X3_next {e : GE} {S0 : St}  {Q : St → Prop} (h : w_X3_next S0  Q) : CT e yX3_next cX3_next 1 none 3 [.ref (e.2.2.1 1)] S0 (pV Q) := by
  refine CT.of (by decide) (Nat.le_of_ble_eq_true rfl) (fun Z hR => ?_)
  rw [w_X3_next] at h
  show MW Z e cX3_next 1 RX3 3 0 [(0, .ref (e.2.2.1 1))] [] S0
  refine m_aload_n dX3_next_0 0 rfl rfl ?_
  refine m_aload_n dX3_next_1 0 rfl rfl ?_
  refine m_get 1 0 (o_1 e _) rfl inlX3 (by decide) q2_21 rfl dX3_next_2 ?_
  refine m_aload_n dX3_next_5 0 rfl rfl ?_
  refine m_get 1 4 (o_1 e _) rfl inlX3 (by decide) q3_2 rfl dX3_next_6 ?_
  refine m_bipush (v := 32) dX3_next_9 (by decide) ?_
  refine m_bipush (v := 32) dX3_next_11 (by decide) ?_
  refine m_callV 2 [.int (S0.1 204 0), .int (32 : Int32), .int (32 : Int32)] (c_X4_behindRow h) (o_2 e _) rfl rfl q10_9 q10_10 q10_11 q2_20 q10_12 t_X4_behindRow rfl (by omega) (by decide) (Nat.le_of_ble_eq_true rfl) rfl dX3_next_13 (kR (P := MW Z e cX3_next 1 RX3 3 16 [(0, .ref (e.2.2.1 1))]) (fun r1 h => ?_))
  refine m_put (S2 := setI S0 203 r1) 1 3 tyX3 tyX3_ok nmX3 (o_1 e _) rfl inlX3 (by decide) q3_1 rfl (tyX3_ok 3 (by decide)) rfl rfl (Nat.le_of_ble_eq_true rfl) (p_1_3 e _ _) dX3_next_16 (fun S2 eS2 => ?_)
  replace h := h S2 eS2
  refine m_aload_n dX3_next_19 0 rfl rfl ?_
  refine m_get 1 3 (o_1 e _) rfl inlX3 (by decide) q3_1 rfl dX3_next_20 ?_
  refine m_aload_n dX3_next_23 0 rfl rfl ?_
  refine m_get 1 0 (o_1 e _) rfl inlX3 (by decide) q2_21 rfl dX3_next_24 ?_
  refine m_get 2 1 (o_2 e _) rfl inlX4 (by decide) q10_8 rfl dX3_next_27 ?_
  refine m_icmp_lt (tgt := 39) dX3_next_30 (by decide) (fun z => ?_) (fun z => ?_)
  · replace h := h.1 z
    refine m_aload_n dX3_next_39 0 rfl rfl ?_
    refine m_aload_n dX3_next_40 0 rfl rfl ?_
    refine m_get 1 0 (o_1 e _) rfl inlX3 (by decide) q2_21 rfl dX3_next_41 ?_
    refine m_aload_n dX3_next_44 0 rfl rfl ?_
    refine m_get 1 3 (o_1 e _) rfl inlX3 (by decide) q3_1 rfl dX3_next_45 ?_
    refine m_bipush (v := 97) dX3_next_48 (by decide) ?_
    refine m_bipush (v := 122) dX3_next_50 (by decide) ?_
    refine m_callV 2 [.int (S2.1 203 0), .int (97 : Int32), .int (122 : Int32)] (c_X4_behindRow h) (o_2 e _) rfl rfl q10_9 q10_10 q10_11 q2_20 q10_12 t_X4_behindRow rfl (by omega) (by decide) (Nat.le_of_ble_eq_true rfl) rfl dX3_next_52 (kR (P := MW Z e cX3_next 1 RX3 3 55 [(0, .ref (e.2.2.1 1))]) (fun r3 h => ?_))
    refine m_put (S2 := setI S2 204 r3) 1 4 tyX3 tyX3_ok nmX3 (o_1 e _) rfl inlX3 (by decide) q3_2 rfl (tyX3_ok 4 (by decide)) rfl rfl (Nat.le_of_ble_eq_true rfl) (p_1_4 e _ _) dX3_next_55 (fun S4 eS4 => ?_)
    replace h := h S4 eS4
    refine m_aload_n dX3_next_58 0 rfl rfl ?_
    refine m_get 1 4 (o_1 e _) rfl inlX3 (by decide) q3_2 rfl dX3_next_59 ?_
    refine m_aload_n dX3_next_62 0 rfl rfl ?_
    refine m_get 1 3 (o_1 e _) rfl inlX3 (by decide) q3_1 rfl dX3_next_63 ?_
    refine m_icmp_le (tgt := 75) dX3_next_66 (by decide) (fun z => ?_) (fun z => ?_)
    · replace h := h.1 z
      refine m_aload_n dX3_next_75 0 rfl rfl ?_
      refine m_aload_n dX3_next_76 0 rfl rfl ?_
      refine m_get 1 0 (o_1 e _) rfl inlX3 (by decide) q2_21 rfl dX3_next_77 ?_
      refine m_aload_n dX3_next_80 0 rfl rfl ?_
      refine m_get 1 3 (o_1 e _) rfl inlX3 (by decide) q3_1 rfl dX3_next_81 ?_
      refine m_bipush (v := 48) dX3_next_84 (by decide) ?_
      refine m_bipush (v := 57) dX3_next_86 (by decide) ?_
      refine m_callV 2 [.int (S4.1 203 0), .int (48 : Int32), .int (57 : Int32)] (c_X4_behindRow h) (o_2 e _) rfl rfl q10_9 q10_10 q10_11 q2_20 q10_12 t_X4_behindRow rfl (by omega) (by decide) (Nat.le_of_ble_eq_true rfl) rfl dX3_next_88 (kR (P := MW Z e cX3_next 1 RX3 3 91 [(0, .ref (e.2.2.1 1))]) (fun r5 h => ?_))
      refine m_put (S2 := setI S4 204 r5) 1 4 tyX3 tyX3_ok nmX3 (o_1 e _) rfl inlX3 (by decide) q3_2 rfl (tyX3_ok 4 (by decide)) rfl rfl (Nat.le_of_ble_eq_true rfl) (p_1_4 e _ _) dX3_next_91 (fun S6 eS6 => ?_)
      replace h := h S6 eS6
      refine m_aload_n dX3_next_94 0 rfl rfl ?_
      refine m_get 1 4 (o_1 e _) rfl inlX3 (by decide) q3_2 rfl dX3_next_95 ?_
      refine m_aload_n dX3_next_98 0 rfl rfl ?_
      refine m_get 1 3 (o_1 e _) rfl inlX3 (by decide) q3_1 rfl dX3_next_99 ?_
      refine m_icmp_le (tgt := 141) dX3_next_102 (by decide) (fun z => ?_) (fun z => ?_)
      · replace h := h.1 z
        refine m_aload_n dX3_next_141 0 rfl rfl ?_
        refine m_aload_n dX3_next_142 0 rfl rfl ?_
        refine m_get 1 3 (o_1 e _) rfl inlX3 (by decide) q3_1 rfl dX3_next_143 ?_
        refine m_iconst (v := 1) dX3_next_146 (by decide) ?_
        refine m_iadd dX3_next_147 ?_
        refine m_put (S2 := setI S6 204 ((S6.1 203 0) + (1 : Int32))) 1 4 tyX3 tyX3_ok nmX3 (o_1 e _) rfl inlX3 (by decide) q3_2 rfl (tyX3_ok 4 (by decide)) rfl rfl (Nat.le_of_ble_eq_true rfl) (p_1_4 e _ _) dX3_next_148 (fun S7 eS7 => ?_)
        replace h := h S7 eS7
        refine m_aload_n dX3_next_151 0 rfl rfl ?_
        refine m_aload_n dX3_next_152 0 rfl rfl ?_
        refine m_get 1 0 (o_1 e _) rfl inlX3 (by decide) q2_21 rfl dX3_next_153 ?_
        refine m_aload_n dX3_next_156 0 rfl rfl ?_
        refine m_get 1 3 (o_1 e _) rfl inlX3 (by decide) q3_1 rfl dX3_next_157 ?_
        refine m_bipush (v := 59) dX3_next_160 (by decide) ?_
        refine m_callV 2 [.int (S7.1 203 0), .int (59 : Int32)] (c_X4_isSign h) (o_2 e _) rfl rfl q10_17 q10_18 q10_19 q2_20 q10_20 t_X4_isSign rfl (by omega) (by decide) (Nat.le_of_ble_eq_true rfl) rfl dX3_next_162 (kR (P := MW Z e cX3_next 1 RX3 3 165 [(0, .ref (e.2.2.1 1))]) (fun r8 h => ?_))
        refine m_if_eq (tgt := 172) dX3_next_165 (by decide) (fun z => ?_) (fun z => ?_)
        · replace h := h.1 z
          refine m_iconst (v := 4) dX3_next_172 (by decide) ?_
          refine m_put (S2 := setI S7 202 (4 : Int32)) 1 2 tyX3 tyX3_ok nmX3 (o_1 e _) rfl inlX3 (by decide) q3_0 rfl (tyX3_ok 2 (by decide)) rfl rfl (Nat.le_of_ble_eq_true rfl) (p_1_2 e _ _) dX3_next_173 (fun S9 eS9 => ?_)
          replace h := h S9 eS9
          exact m_vret hR ⟨rfl, h⟩ dX3_next_176
        · replace h := h.2 z
          refine m_iconst (v := 3) dX3_next_168 (by decide) ?_
          refine m_goto (tgt := 173) dX3_next_169 (by decide) ?_
          refine m_put (S2 := setI S7 202 (3 : Int32)) 1 2 tyX3 tyX3_ok nmX3 (o_1 e _) rfl inlX3 (by decide) q3_0 rfl (tyX3_ok 2 (by decide)) rfl rfl (Nat.le_of_ble_eq_true rfl) (p_1_2 e _ _) dX3_next_173 (fun S10 eS10 => ?_)
          replace h := h S10 eS10
          exact m_vret hR ⟨rfl, h⟩ dX3_next_176
      · replace h := h.2 z
        refine m_aload_n dX3_next_105 0 rfl rfl ?_
        refine m_aload_n dX3_next_106 0 rfl rfl ?_
        refine m_get 1 0 (o_1 e _) rfl inlX3 (by decide) q2_21 rfl dX3_next_107 ?_
        refine m_aload_n dX3_next_110 0 rfl rfl ?_
        refine m_get 1 3 (o_1 e _) rfl inlX3 (by decide) q3_1 rfl dX3_next_111 ?_
        refine m_aload_n dX3_next_114 0 rfl rfl ?_
        refine m_get 1 4 (o_1 e _) rfl inlX3 (by decide) q3_2 rfl dX3_next_115 ?_
        refine m_callV 2 [.int (S6.1 203 0), .int (S6.1 204 0)] (c_X4_numberIn h) (o_2 e _) rfl rfl q10_13 q10_14 q10_15 q2_20 q10_16 t_X4_numberIn rfl (by omega) (by decide) (Nat.le_of_ble_eq_true rfl) rfl dX3_next_118 (kR (P := MW Z e cX3_next 1 RX3 3 121 [(0, .ref (e.2.2.1 1))]) (fun r11 h => ?_))
        refine m_put (S2 := setI S6 205 r11) 1 5 tyX3 tyX3_ok nmX3 (o_1 e _) rfl inlX3 (by decide) q3_3 rfl (tyX3_ok 5 (by decide)) rfl rfl (Nat.le_of_ble_eq_true rfl) (p_1_5 e _ _) dX3_next_121 (fun S12 eS12 => ?_)
        replace h := h S12 eS12
        refine m_aload_n dX3_next_124 0 rfl rfl ?_
        refine m_aload_n dX3_next_125 0 rfl rfl ?_
        refine m_get 1 5 (o_1 e _) rfl inlX3 (by decide) q3_3 rfl dX3_next_126 ?_
        refine m_if_ge (tgt := 136) dX3_next_129 (by decide) (fun z => ?_) (fun z => ?_)
        · replace h := h.1 z
          refine m_iconst (v := 2) dX3_next_136 (by decide) ?_
          refine m_put (S2 := setI S12 202 (2 : Int32)) 1 2 tyX3 tyX3_ok nmX3 (o_1 e _) rfl inlX3 (by decide) q3_0 rfl (tyX3_ok 2 (by decide)) rfl rfl (Nat.le_of_ble_eq_true rfl) (p_1_2 e _ _) dX3_next_137 (fun S13 eS13 => ?_)
          replace h := h S13 eS13
          exact m_vret hR ⟨rfl, h⟩ dX3_next_140
        · replace h := h.2 z
          refine m_iconst (v := 4) dX3_next_132 (by decide) ?_
          refine m_goto (tgt := 137) dX3_next_133 (by decide) ?_
          refine m_put (S2 := setI S12 202 (4 : Int32)) 1 2 tyX3 tyX3_ok nmX3 (o_1 e _) rfl inlX3 (by decide) q3_0 rfl (tyX3_ok 2 (by decide)) rfl rfl (Nat.le_of_ble_eq_true rfl) (p_1_2 e _ _) dX3_next_137 (fun S14 eS14 => ?_)
          replace h := h S14 eS14
          exact m_vret hR ⟨rfl, h⟩ dX3_next_140
    · replace h := h.2 z
      refine m_aload_n dX3_next_69 0 rfl rfl ?_
      refine m_iconst (v := 1) dX3_next_70 (by decide) ?_
      refine m_put (S2 := setI S4 202 (1 : Int32)) 1 2 tyX3 tyX3_ok nmX3 (o_1 e _) rfl inlX3 (by decide) q3_0 rfl (tyX3_ok 2 (by decide)) rfl rfl (Nat.le_of_ble_eq_true rfl) (p_1_2 e _ _) dX3_next_71 (fun S15 eS15 => ?_)
      replace h := h S15 eS15
      exact m_vret hR ⟨rfl, h⟩ dX3_next_74
  · replace h := h.2 z
    refine m_aload_n dX3_next_33 0 rfl rfl ?_
    refine m_iconst (v := 0) dX3_next_34 (by decide) ?_
    refine m_put (S2 := setI S2 202 (0 : Int32)) 1 2 tyX3 tyX3_ok nmX3 (o_1 e _) rfl inlX3 (by decide) q3_0 rfl (tyX3_ok 2 (by decide)) rfl rfl (Nat.le_of_ble_eq_true rfl) (p_1_2 e _ _) dX3_next_35 (fun S16 eS16 => ?_)
    replace h := h S16 eS16
    exact m_vret hR ⟨rfl, h⟩ dX3_next_38
def X4_isWord_L15 (S5 : St) (f3 : Int32) (f4 : Nat) (Q : Int32 → Prop) (kx : Prop) : Nat → Int32 → Prop
  | 0 => fun _ => False
  | n + 1 => (fun (rec : Int32 → Prop) => fun (v2 : Int32) => (w_J0_length_8abf5 f4 (fun r6 => ((r6 ≤ v2 → kx) ∧ (¬ r6 ≤ v2 → (w_J0_charAt_5068e f4 v2 (fun r7 => (w_X4_isSign S5 (f3 + v2) r7  (fun r8 => ((¬ r8 = 0 → ∀ x9 : Int32, x9 = v2 + (1 : Int32) → rec x9) ∧ (r8 = 0 → Q (0 : Int32)))))))))))) (X4_isWord_L15 S5 f3 f4 Q kx n)
def w_X4_isWord (S0 : St) (p1 : Int32) (p2 : Int32) (p3 : Nat) (Q : Int32 → Prop) : Prop :=
  (w_J0_length_8abf5 p3 (fun r1 => (((p2 - p1) = r1 → (∃ n : Nat, X4_isWord_L15 S0 p1 p3 Q (Q (1 : Int32)) n (0 : Int32))) ∧ (¬ (p2 - p1) = r1 → Q (0 : Int32)))))
set_option maxRecDepth 100000 in
set_option maxHeartbeats 4000000 in
theorem l_X4_isWord_L15 {Z : Zt} {e : GE} {S5 : St} {f3 : Int32} {f4 : Nat} {Q : Int32 → Prop} {kx : Prop} (hR : RT Z e (some .boolean) (pR S5 Q)) (hf4 : f4 < 4) (hk : kx  → MW Z e cX4_isWord 5 RX4 7 49 [] [] S5) : ∀ (n : Nat) (v2 : Int32), X4_isWord_L15 S5 f3 f4 Q kx n v2 → MW Z e cX4_isWord 5 RX4 7 15 [(0, .ref (e.2.2.1 2)), (1, .int f3), (3, .ref (e.2.2.2.1 f4)), (4, .int v2)] [] S5 := by
  intro n
  induction n with
  | zero =>
    intro v2 h
    exact h.elim
  | succ n ih =>
    intro v2 h
    rw [X4_isWord_L15] at h
    refine m_iload dX4_isWord_15 3 rfl ?_
    refine m_aload_n dX4_isWord_17 2 rfl rfl ?_
    refine m_callVS f4 hf4 [] (c_J0_length_8abf5 hf4 h) rfl q11_5 q11_6 q11_7 q11_8 q11_9 t_J0_length_8abf5 rfl (by omega) (by decide) (Nat.le_of_ble_eq_true rfl) rfl dX4_isWord_18 (kR (P := MW Z e cX4_isWord 5 RX4 7 21 [(0, .ref (e.2.2.1 2)), (1, .int f3), (3, .ref (e.2.2.2.1 f4)), (4, .int v2)]) (fun r6 h => ?_))
    refine m_icmp_ge (tgt := 49) dX4_isWord_21 (by decide) (fun z => ?_) (fun z => ?_)
    · replace h := h.1 z
      refine m_loc [] rfl ?_
      exact hk  h
    · replace h := h.2 z
      refine m_aload_n dX4_isWord_24 0 rfl rfl ?_
      refine m_iload_n dX4_isWord_25 1 rfl rfl ?_
      refine m_iload dX4_isWord_26 3 rfl ?_
      refine m_iadd dX4_isWord_28 ?_
      refine m_aload_n dX4_isWord_29 2 rfl rfl ?_
      refine m_iload dX4_isWord_30 3 rfl ?_
      refine m_callVS f4 hf4 [.int v2] (c_J0_charAt_5068e hf4 h) rfl q11_17 q11_18 q11_19 q11_8 q11_20 t_J0_charAt_5068e rfl (by omega) (by decide) (Nat.le_of_ble_eq_true rfl) rfl dX4_isWord_32 (kR (P := MW Z e cX4_isWord 5 RX4 7 35 [(0, .ref (e.2.2.1 2)), (1, .int f3), (3, .ref (e.2.2.2.1 f4)), (4, .int v2)]) (fun r7 h => ?_))
      refine m_callV 2 [.int (f3 + v2), .int r7] (c_X4_isSign h) (o_2 e _) rfl rfl q13_6 q10_18 q10_19 q2_20 q10_20 t_X4_isSign rfl (by omega) (by decide) (Nat.le_of_ble_eq_true rfl) rfl dX4_isWord_35 (kR (P := MW Z e cX4_isWord 5 RX4 7 38 [(0, .ref (e.2.2.1 2)), (1, .int f3), (3, .ref (e.2.2.2.1 f4)), (4, .int v2)]) (fun r8 h => ?_))
      refine m_if_ne (tgt := 43) dX4_isWord_38 (by decide) (fun z => ?_) (fun z => ?_)
      · replace h := h.1 z
        obtain ⟨x9, ex9⟩ : ∃ y : Int32, y = v2 + (1 : Int32) := ⟨_, rfl⟩
        replace h := h x9 ex9
        refine m_iinc (v := x9) (lv2 := [(4, .int x9), (0, .ref (e.2.2.1 2)), (1, .int f3), (3, .ref (e.2.2.2.1 f4))]) dX4_isWord_43 3 rfl ex9.symm (by decide) rfl ?_
        refine m_goto (tgt := 15) dX4_isWord_46 (by decide) ?_
        refine m_loc [1, 2, 3, 0] rfl ?_
        exact ih x9 h
      · replace h := h.2 z
        refine m_iconst (v := 0) dX4_isWord_41 (by decide) ?_
        exact m_zret hR rfl ⟨_, rfl, rfl, h⟩ dX4_isWord_42
set_option maxRecDepth 100000 in
set_option maxHeartbeats 4000000 in
theorem c_X4_isWord {e : GE} {S0 : St} {p1 : Int32} {p2 : Int32} {p3 : Nat} {Q : Int32 → Prop} (hi3 : p3 < 4) (h : w_X4_isWord S0 p1 p2 p3 Q) : CT e yX4_isWord cX4_isWord 5 (some .boolean) 7 [.ref (e.2.2.1 2), .int p1, .int p2, .ref (e.2.2.2.1 p3)] S0 (pR S0 Q) := by
  refine CT.of (by decide) (Nat.le_of_ble_eq_true rfl) (fun Z hR => ?_)
  rw [w_X4_isWord] at h
  show MW Z e cX4_isWord 5 RX4 7 0 [(0, .ref (e.2.2.1 2)), (1, .int p1), (2, .int p2), (3, .ref (e.2.2.2.1 p3))] [] S0
  refine m_iload_n dX4_isWord_0 2 rfl rfl ?_
  refine m_iload_n dX4_isWord_1 1 rfl rfl ?_
  refine m_isub dX4_isWord_2 ?_
  refine m_aload_n dX4_isWord_3 3 rfl rfl ?_
  refine m_callVS p3 hi3 [] (c_J0_length_8abf5 hi3 h) rfl q11_5 q11_6 q11_7 q11_8 q11_9 t_J0_length_8abf5 rfl (by omega) (by decide) (Nat.le_of_ble_eq_true rfl) rfl dX4_isWord_4 (kR (P := MW Z e cX4_isWord 5 RX4 7 7 [(0, .ref (e.2.2.1 2)), (1, .int p1), (2, .int p2), (3, .ref (e.2.2.2.1 p3))]) (fun r1 h => ?_))
  refine m_icmp_eq (tgt := 12) dX4_isWord_7 (by decide) (fun z => ?_) (fun z => ?_)
  · replace h := h.1 z
    refine m_iconst (v := 0) dX4_isWord_12 (by decide) ?_
    refine m_istore (lv2 := [(4, .int (0 : Int32)), (0, .ref (e.2.2.1 2)), (1, .int p1), (2, .int p2), (3, .ref (e.2.2.2.1 p3))]) dX4_isWord_13 (by decide) rfl ?_
    obtain ⟨n, h⟩ := h
    refine m_loc [1, 2, 4, 0] rfl ?_
    refine l_X4_isWord_L15 hR hi3 (fun h => ?_) n (0 : Int32) h
    refine m_iconst (v := 1) dX4_isWord_49 (by decide) ?_
    exact m_zret hR rfl ⟨_, rfl, rfl, h⟩ dX4_isWord_50
  · replace h := h.2 z
    refine m_iconst (v := 0) dX4_isWord_10 (by decide) ?_
    exact m_zret hR rfl ⟨_, rfl, rfl, h⟩ dX4_isWord_11
def w_X3_take (S0 : St) (p1 : Int32) (p2 : Int32) (Q : Int32 → St → Prop) : Prop :=
  ((¬ (S0.1 202 0) = (2 : Int32) → Q (-1 : Int32) S0) ∧ ((S0.1 202 0) = (2 : Int32) → (w_X6_within (S0.1 205 0) p1 p2  (fun r1 => ((¬ r1 = 0 → ∀ x2 : Int32, x2 = S0.1 205 0 → (w_X3_next S0  (fun S3 => Q x2 S3))) ∧ (r1 = 0 → Q (-1 : Int32) S0))))))
set_option maxRecDepth 100000 in
set_option maxHeartbeats 4000000 in
theorem c_X3_take {e : GE} {S0 : St} {p1 : Int32} {p2 : Int32} {Q : Int32 → St → Prop} (h : w_X3_take S0 p1 p2 Q) : CT e yX3_take cX3_take 4 (some .int) 4 [.ref (e.2.2.1 1), .int p1, .int p2] S0 (pI Q) := by
  refine CT.of (by decide) (Nat.le_of_ble_eq_true rfl) (fun Z hR => ?_)
  rw [w_X3_take] at h
  show MW Z e cX3_take 4 RX3 4 0 [(0, .ref (e.2.2.1 1)), (1, .int p1), (2, .int p2)] [] S0
  refine m_aload_n dX3_take_0 0 rfl rfl ?_
  refine m_get 1 2 (o_1 e _) rfl inlX3 (by decide) q3_0 rfl dX3_take_1 ?_
  refine m_iconst (v := 2) dX3_take_4 (by decide) ?_
  refine m_icmp_ne (tgt := 20) dX3_take_5 (by decide) (fun z => ?_) (fun z => ?_)
  · replace h := h.1 z
    refine m_iconst (v := -1) dX3_take_20 (by decide) ?_
    exact m_iret hR ⟨_, rfl, h⟩ dX3_take_21
  · replace h := h.2 z
    refine m_aload_n dX3_take_8 0 rfl rfl ?_
    refine m_get 1 5 (o_1 e _) rfl inlX3 (by decide) q3_3 rfl dX3_take_9 ?_
    refine m_iload_n dX3_take_12 1 rfl rfl ?_
    refine m_iload_n dX3_take_13 2 rfl rfl ?_
    refine m_callSN [.int (S0.1 205 0), .int p1, .int p2] (c_X6_within h) nk_3_103 q8_20 q1_2 q8_21 t_X6_within rfl (by omega) (by decide) (Nat.le_of_ble_eq_true rfl) rfl dX3_take_14 (kR (P := MW Z e cX3_take 4 RX3 4 17 [(0, .ref (e.2.2.1 1)), (1, .int p1), (2, .int p2)]) (fun r1 h => ?_))
    refine m_if_ne (tgt := 22) dX3_take_17 (by decide) (fun z => ?_) (fun z => ?_)
    · replace h := h.1 z
      refine m_aload_n dX3_take_22 0 rfl rfl ?_
      refine m_get 1 5 (o_1 e _) rfl inlX3 (by decide) q3_3 rfl dX3_take_23 ?_
      refine m_topi (fun x2 ex2 => ?_)
      replace h := h x2 ex2
      refine m_istore_n (lv2 := [(3, .int x2), (0, .ref (e.2.2.1 1)), (1, .int p1), (2, .int p2)]) dX3_take_26 rfl (by decide) rfl ?_
      refine m_aload_n dX3_take_27 1 rfl rfl ?_
      refine m_callV 1 [] (c_X3_next h) (o_1 e _) rfl rfl q10_4 q10_5 q10_6 q1_15 q10_7 t_X3_next rfl (by omega) (by decide) (Nat.le_of_ble_eq_true rfl) rfl dX3_take_28 (kV (P := MW Z e cX3_take 4 RX3 4 31 [(3, .int x2), (0, .ref (e.2.2.1 1)), (1, .int p1), (2, .int p2)]) (fun S3 h => ?_))
      refine m_iload_n dX3_take_31 0 rfl rfl ?_
      exact m_iret hR ⟨_, rfl, h⟩ dX3_take_32
    · replace h := h.2 z
      refine m_iconst (v := -1) dX3_take_20 (by decide) ?_
      exact m_iret hR ⟨_, rfl, h⟩ dX3_take_21
def w_X3_takeStop (S0 : St)  (Q : Int32 → St → Prop) : Prop :=
  (((S0.1 202 0) = (3 : Int32) → (w_X3_next S0  (fun S1 => Q (1 : Int32) S1))) ∧ (¬ (S0.1 202 0) = (3 : Int32) → Q (0 : Int32) S0))
set_option maxRecDepth 100000 in
set_option maxHeartbeats 4000000 in
theorem c_X3_takeStop {e : GE} {S0 : St}  {Q : Int32 → St → Prop} (h : w_X3_takeStop S0  Q) : CT e yX3_takeStop cX3_takeStop 1 (some .boolean) 4 [.ref (e.2.2.1 1)] S0 (pI Q) := by
  refine CT.of (by decide) (Nat.le_of_ble_eq_true rfl) (fun Z hR => ?_)
  rw [w_X3_takeStop] at h
  show MW Z e cX3_takeStop 1 RX3 4 0 [(0, .ref (e.2.2.1 1))] [] S0
  refine m_aload_n dX3_takeStop_0 0 rfl rfl ?_
  refine m_get 1 2 (o_1 e _) rfl inlX3 (by decide) q3_0 rfl dX3_takeStop_1 ?_
  refine m_iconst (v := 3) dX3_takeStop_4 (by decide) ?_
  refine m_icmp_eq (tgt := 10) dX3_takeStop_5 (by decide) (fun z => ?_) (fun z => ?_)
  · replace h := h.1 z
    refine m_aload_n dX3_takeStop_10 0 rfl rfl ?_
    refine m_callV 1 [] (c_X3_next h) (o_1 e _) rfl rfl q10_4 q10_5 q10_6 q1_15 q10_7 t_X3_next rfl (by omega) (by decide) (Nat.le_of_ble_eq_true rfl) rfl dX3_takeStop_11 (kV (P := MW Z e cX3_takeStop 1 RX3 4 14 [(0, .ref (e.2.2.1 1))]) (fun S1 h => ?_))
    refine m_iconst (v := 1) dX3_takeStop_14 (by decide) ?_
    exact m_zret hR rfl ⟨_, rfl, h⟩ dX3_takeStop_15
  · replace h := h.2 z
    refine m_iconst (v := 0) dX3_takeStop_8 (by decide) ?_
    exact m_zret hR rfl ⟨_, rfl, h⟩ dX3_takeStop_9
def w_X2_addPaint (S0 : St) (p1 : Int32) (p2 : Int32) (p3 : Int32) (Q : St → Prop) : Prop :=
  (vp_in (S0.1 502 0) 8 ∧ ∀ S1 : St, S1 = setA S0 8 (upd (S0.1 8) (S0.1 502 0).toNatClampNeg p1) → (vp_in (S1.1 502 0) 8 ∧ ∀ S2 : St, S2 = setA S1 9 (upd (S1.1 9) (S1.1 502 0).toNatClampNeg p2) → (vp_in (S2.1 502 0) 8 ∧ ∀ S3 : St, S3 = setA S2 10 (upd (S2.1 10) (S2.1 502 0).toNatClampNeg p3) → ∀ S4 : St, S4 = setI S3 502 ((S3.1 502 0) + (1 : Int32)) → Q S4)))
set_option maxRecDepth 100000 in
set_option maxHeartbeats 4000000 in
theorem c_X2_addPaint {e : GE} {S0 : St} {p1 : Int32} {p2 : Int32} {p3 : Int32} {Q : St → Prop} (h : w_X2_addPaint S0 p1 p2 p3 Q) : CT e yX2_addPaint cX2_addPaint 4 none 1 [.ref (e.2.2.1 4), .int p1, .int p2, .int p3] S0 (pV Q) := by
  refine CT.of (by decide) (Nat.le_of_ble_eq_true rfl) (fun Z hR => ?_)
  rw [w_X2_addPaint] at h
  show MW Z e cX2_addPaint 4 RX2 1 0 [(0, .ref (e.2.2.1 4)), (1, .int p1), (2, .int p2), (3, .int p3)] [] S0
  refine m_aload_n dX2_addPaint_0 0 rfl rfl ?_
  refine m_get 4 6 (o_4 e _) rfl inlX2 (by decide) q3_21 rfl dX2_addPaint_1 ?_
  refine m_aload_n dX2_addPaint_4 0 rfl rfl ?_
  refine m_get 4 2 (o_4 e _) rfl inlX2 (by decide) q3_16 rfl dX2_addPaint_5 ?_
  refine m_iload_n dX2_addPaint_8 1 rfl rfl ?_
  refine m_iast 8 (a_8 e _) (aw_8 e _) h.1 dX2_addPaint_9 (fun S1 eS1 => ?_)
  replace h := h.2 S1 eS1
  refine m_aload_n dX2_addPaint_10 0 rfl rfl ?_
  refine m_get 4 7 (o_4 e _) rfl inlX2 (by decide) q3_22 rfl dX2_addPaint_11 ?_
  refine m_aload_n dX2_addPaint_14 0 rfl rfl ?_
  refine m_get 4 2 (o_4 e _) rfl inlX2 (by decide) q3_16 rfl dX2_addPaint_15 ?_
  refine m_iload_n dX2_addPaint_18 2 rfl rfl ?_
  refine m_iast 9 (a_9 e _) (aw_9 e _) h.1 dX2_addPaint_19 (fun S2 eS2 => ?_)
  replace h := h.2 S2 eS2
  refine m_aload_n dX2_addPaint_20 0 rfl rfl ?_
  refine m_get 4 8 (o_4 e _) rfl inlX2 (by decide) q3_23 rfl dX2_addPaint_21 ?_
  refine m_aload_n dX2_addPaint_24 0 rfl rfl ?_
  refine m_get 4 2 (o_4 e _) rfl inlX2 (by decide) q3_16 rfl dX2_addPaint_25 ?_
  refine m_iload_n dX2_addPaint_28 3 rfl rfl ?_
  refine m_iast 10 (a_10 e _) (aw_10 e _) h.1 dX2_addPaint_29 (fun S3 eS3 => ?_)
  replace h := h.2 S3 eS3
  refine m_aload_n dX2_addPaint_30 0 rfl rfl ?_
  refine m_dup dX2_addPaint_31 rfl ?_
  refine m_get 4 2 (o_4 e _) rfl inlX2 (by decide) q3_16 rfl dX2_addPaint_32 ?_
  refine m_iconst (v := 1) dX2_addPaint_35 (by decide) ?_
  refine m_iadd dX2_addPaint_36 ?_
  refine m_put (S2 := setI S3 502 ((S3.1 502 0) + (1 : Int32))) 4 2 tyX2 tyX2_ok nmX2 (o_4 e _) rfl inlX2 (by decide) q3_16 rfl (tyX2_ok 2 (by decide)) rfl rfl (Nat.le_of_ble_eq_true rfl) (p_4_2 e _ _) dX2_addPaint_37 (fun S4 eS4 => ?_)
  replace h := h S4 eS4
  exact m_vret hR ⟨rfl, h⟩ dX2_addPaint_40
def w_X3_readPaint (S0 : St)  (Q : Int32 → St → Prop) : Prop :=
  (((S0.1 502 0) < (8 : Int32) → (w_X3_next S0  (fun S1 => (w_X3_take S1 (0 : Int32) ((S1.1 500 0) - (1 : Int32))  (fun r2 S3 => ((0 ≤ r2 → (w_X3_take S3 (0 : Int32) (9 : Int32)  (fun r4 S5 => ((0 ≤ r4 → (w_X3_take S5 (1 : Int32) (5 : Int32)  (fun r6 S7 => ((r6 < 0 → Q (0 : Int32) S7) ∧ (¬ r6 < 0 → (w_X3_takeStop S7  (fun r8 S9 => ((¬ r8 = 0 → (w_X2_addPaint S9 r2 r4 r6  (fun S10 => Q (1 : Int32) S10))) ∧ (r8 = 0 → Q (0 : Int32) S9))))))))) ∧ (¬ 0 ≤ r4 → Q (0 : Int32) S5))))) ∧ (¬ 0 ≤ r2 → Q (0 : Int32) S3))))))) ∧ (¬ (S0.1 502 0) < (8 : Int32) → Q (0 : Int32) S0))
set_option maxRecDepth 100000 in
set_option maxHeartbeats 4000000 in
theorem c_X3_readPaint {e : GE} {S0 : St}  {Q : Int32 → St → Prop} (h : w_X3_readPaint S0  Q) : CT e yX3_readPaint cX3_readPaint 4 (some .boolean) 5 [.ref (e.2.2.1 1)] S0 (pI Q) := by
  refine CT.of (by decide) (Nat.le_of_ble_eq_true rfl) (fun Z hR => ?_)
  rw [w_X3_readPaint] at h
  show MW Z e cX3_readPaint 4 RX3 5 0 [(0, .ref (e.2.2.1 1))] [] S0
  refine m_aload_n dX3_readPaint_0 0 rfl rfl ?_
  refine m_get 1 1 (o_1 e _) rfl inlX3 (by decide) q2_23 rfl dX3_readPaint_1 ?_
  refine m_get 4 2 (o_4 e _) rfl inlX2 (by decide) q14_18 rfl dX3_readPaint_4 ?_
  refine m_bipush (v := 8) dX3_readPaint_7 (by decide) ?_
  refine m_icmp_lt (tgt := 14) dX3_readPaint_9 (by decide) (fun z => ?_) (fun z => ?_)
  · replace h := h.1 z
    refine m_aload_n dX3_readPaint_14 0 rfl rfl ?_
    refine m_callV 1 [] (c_X3_next h) (o_1 e _) rfl rfl q10_4 q10_5 q10_6 q1_15 q10_7 t_X3_next rfl (by omega) (by decide) (Nat.le_of_ble_eq_true rfl) rfl dX3_readPaint_15 (kV (P := MW Z e cX3_readPaint 4 RX3 5 18 [(0, .ref (e.2.2.1 1))]) (fun S1 h => ?_))
    refine m_aload_n dX3_readPaint_18 0 rfl rfl ?_
    refine m_iconst (v := 0) dX3_readPaint_19 (by decide) ?_
    refine m_aload_n dX3_readPaint_20 0 rfl rfl ?_
    refine m_get 1 1 (o_1 e _) rfl inlX3 (by decide) q2_23 rfl dX3_readPaint_21 ?_
    refine m_get 4 0 (o_4 e _) rfl inlX2 (by decide) q13_11 rfl dX3_readPaint_24 ?_
    refine m_iconst (v := 1) dX3_readPaint_27 (by decide) ?_
    refine m_isub dX3_readPaint_28 ?_
    refine m_callV 1 [.int (0 : Int32), .int ((S1.1 500 0) - (1 : Int32))] (c_X3_take h) (o_1 e _) rfl rfl q13_12 q13_13 q13_14 q1_15 q13_15 t_X3_take rfl (by omega) (by decide) (Nat.le_of_ble_eq_true rfl) rfl dX3_readPaint_29 (kI (P := MW Z e cX3_readPaint 4 RX3 5 32 [(0, .ref (e.2.2.1 1))]) (fun r2 S3 h => ?_))
    refine m_istore_n (lv2 := [(1, .int r2), (0, .ref (e.2.2.1 1))]) dX3_readPaint_32 rfl (by decide) rfl ?_
    refine m_iload_n dX3_readPaint_33 0 rfl rfl ?_
    refine m_if_ge (tgt := 39) dX3_readPaint_34 (by decide) (fun z => ?_) (fun z => ?_)
    · replace h := h.1 z
      refine m_aload_n dX3_readPaint_39 1 rfl rfl ?_
      refine m_iconst (v := 0) dX3_readPaint_40 (by decide) ?_
      refine m_bipush (v := 9) dX3_readPaint_41 (by decide) ?_
      refine m_callV 1 [.int (0 : Int32), .int (9 : Int32)] (c_X3_take h) (o_1 e _) rfl rfl q13_12 q13_13 q13_14 q1_15 q13_15 t_X3_take rfl (by omega) (by decide) (Nat.le_of_ble_eq_true rfl) rfl dX3_readPaint_43 (kI (P := MW Z e cX3_readPaint 4 RX3 5 46 [(1, .int r2), (0, .ref (e.2.2.1 1))]) (fun r4 S5 h => ?_))
      refine m_istore_n (lv2 := [(2, .int r4), (1, .int r2), (0, .ref (e.2.2.1 1))]) dX3_readPaint_46 rfl (by decide) rfl ?_
      refine m_iload_n dX3_readPaint_47 0 rfl rfl ?_
      refine m_if_ge (tgt := 53) dX3_readPaint_48 (by decide) (fun z => ?_) (fun z => ?_)
      · replace h := h.1 z
        refine m_aload_n dX3_readPaint_53 2 rfl rfl ?_
        refine m_iconst (v := 1) dX3_readPaint_54 (by decide) ?_
        refine m_iconst (v := 5) dX3_readPaint_55 (by decide) ?_
        refine m_callV 1 [.int (1 : Int32), .int (5 : Int32)] (c_X3_take h) (o_1 e _) rfl rfl q13_12 q13_13 q13_14 q1_15 q13_15 t_X3_take rfl (by omega) (by decide) (Nat.le_of_ble_eq_true rfl) rfl dX3_readPaint_56 (kI (P := MW Z e cX3_readPaint 4 RX3 5 59 [(2, .int r4), (1, .int r2), (0, .ref (e.2.2.1 1))]) (fun r6 S7 h => ?_))
        refine m_istore_n (lv2 := [(3, .int r6), (2, .int r4), (1, .int r2), (0, .ref (e.2.2.1 1))]) dX3_readPaint_59 rfl (by decide) rfl ?_
        refine m_iload_n dX3_readPaint_60 0 rfl rfl ?_
        refine m_if_lt (tgt := 71) dX3_readPaint_61 (by decide) (fun z => ?_) (fun z => ?_)
        · replace h := h.1 z
          refine m_iconst (v := 0) dX3_readPaint_71 (by decide) ?_
          exact m_zret hR rfl ⟨_, rfl, h⟩ dX3_readPaint_72
        · replace h := h.2 z
          refine m_aload_n dX3_readPaint_64 3 rfl rfl ?_
          refine m_callV 1 [] (c_X3_takeStop h) (o_1 e _) rfl rfl q13_16 q13_17 q13_18 q1_15 q13_19 t_X3_takeStop rfl (by omega) (by decide) (Nat.le_of_ble_eq_true rfl) rfl dX3_readPaint_65 (kI (P := MW Z e cX3_readPaint 4 RX3 5 68 [(3, .int r6), (2, .int r4), (1, .int r2), (0, .ref (e.2.2.1 1))]) (fun r8 S9 h => ?_))
          refine m_if_ne (tgt := 73) dX3_readPaint_68 (by decide) (fun z => ?_) (fun z => ?_)
          · replace h := h.1 z
            refine m_aload_n dX3_readPaint_73 3 rfl rfl ?_
            refine m_get 1 1 (o_1 e _) rfl inlX3 (by decide) q2_23 rfl dX3_readPaint_74 ?_
            refine m_iload_n dX3_readPaint_77 2 rfl rfl ?_
            refine m_iload_n dX3_readPaint_78 1 rfl rfl ?_
            refine m_iload_n dX3_readPaint_79 0 rfl rfl ?_
            refine m_callV 4 [.int r2, .int r4, .int r6] (c_X2_addPaint h) (o_4 e _) rfl rfl q14_19 q14_20 q14_21 q1_21 q14_22 t_X2_addPaint rfl (by omega) (by decide) (Nat.le_of_ble_eq_true rfl) rfl dX3_readPaint_80 (kV (P := MW Z e cX3_readPaint 4 RX3 5 83 [(3, .int r6), (2, .int r4), (1, .int r2), (0, .ref (e.2.2.1 1))]) (fun S10 h => ?_))
            refine m_iconst (v := 1) dX3_readPaint_83 (by decide) ?_
            exact m_zret hR rfl ⟨_, rfl, h⟩ dX3_readPaint_84
          · replace h := h.2 z
            refine m_iconst (v := 0) dX3_readPaint_71 (by decide) ?_
            exact m_zret hR rfl ⟨_, rfl, h⟩ dX3_readPaint_72
      · replace h := h.2 z
        refine m_iconst (v := 0) dX3_readPaint_51 (by decide) ?_
        exact m_zret hR rfl ⟨_, rfl, h⟩ dX3_readPaint_52
    · replace h := h.2 z
      refine m_iconst (v := 0) dX3_readPaint_37 (by decide) ?_
      exact m_zret hR rfl ⟨_, rfl, h⟩ dX3_readPaint_38
  · replace h := h.2 z
    refine m_iconst (v := 0) dX3_readPaint_12 (by decide) ?_
    exact m_zret hR rfl ⟨_, rfl, h⟩ dX3_readPaint_13
def w_X3_readRain (S0 : St)  (Q : Int32 → St → Prop) : Prop :=
  (w_X3_next S0  (fun S1 => (w_X3_take S1 (0 : Int32) (9 : Int32)  (fun r2 S3 => ((0 ≤ r2 → (w_X3_take S3 (0 : Int32) (3 : Int32)  (fun r4 S5 => ((r4 < 0 → Q (0 : Int32) S5) ∧ (¬ r4 < 0 → (w_X3_takeStop S5  (fun r6 S7 => ((¬ r6 = 0 → (vp_in r2 10 ∧ ∀ S8 : St, S8 = setA S7 7 (upd (S7.1 7) r2.toNatClampNeg r4) → Q (1 : Int32) S8)) ∧ (r6 = 0 → Q (0 : Int32) S7))))))))) ∧ (¬ 0 ≤ r2 → Q (0 : Int32) S3))))))
set_option maxRecDepth 100000 in
set_option maxHeartbeats 4000000 in
theorem c_X3_readRain {e : GE} {S0 : St}  {Q : Int32 → St → Prop} (h : w_X3_readRain S0  Q) : CT e yX3_readRain cX3_readRain 3 (some .boolean) 5 [.ref (e.2.2.1 1)] S0 (pI Q) := by
  refine CT.of (by decide) (Nat.le_of_ble_eq_true rfl) (fun Z hR => ?_)
  rw [w_X3_readRain] at h
  show MW Z e cX3_readRain 3 RX3 5 0 [(0, .ref (e.2.2.1 1))] [] S0
  refine m_aload_n dX3_readRain_0 0 rfl rfl ?_
  refine m_callV 1 [] (c_X3_next h) (o_1 e _) rfl rfl q10_4 q10_5 q10_6 q1_15 q10_7 t_X3_next rfl (by omega) (by decide) (Nat.le_of_ble_eq_true rfl) rfl dX3_readRain_1 (kV (P := MW Z e cX3_readRain 3 RX3 5 4 [(0, .ref (e.2.2.1 1))]) (fun S1 h => ?_))
  refine m_aload_n dX3_readRain_4 0 rfl rfl ?_
  refine m_iconst (v := 0) dX3_readRain_5 (by decide) ?_
  refine m_bipush (v := 9) dX3_readRain_6 (by decide) ?_
  refine m_callV 1 [.int (0 : Int32), .int (9 : Int32)] (c_X3_take h) (o_1 e _) rfl rfl q13_12 q13_13 q13_14 q1_15 q13_15 t_X3_take rfl (by omega) (by decide) (Nat.le_of_ble_eq_true rfl) rfl dX3_readRain_8 (kI (P := MW Z e cX3_readRain 3 RX3 5 11 [(0, .ref (e.2.2.1 1))]) (fun r2 S3 h => ?_))
  refine m_istore_n (lv2 := [(1, .int r2), (0, .ref (e.2.2.1 1))]) dX3_readRain_11 rfl (by decide) rfl ?_
  refine m_iload_n dX3_readRain_12 0 rfl rfl ?_
  refine m_if_ge (tgt := 18) dX3_readRain_13 (by decide) (fun z => ?_) (fun z => ?_)
  · replace h := h.1 z
    refine m_aload_n dX3_readRain_18 1 rfl rfl ?_
    refine m_iconst (v := 0) dX3_readRain_19 (by decide) ?_
    refine m_iconst (v := 3) dX3_readRain_20 (by decide) ?_
    refine m_callV 1 [.int (0 : Int32), .int (3 : Int32)] (c_X3_take h) (o_1 e _) rfl rfl q13_12 q13_13 q13_14 q1_15 q13_15 t_X3_take rfl (by omega) (by decide) (Nat.le_of_ble_eq_true rfl) rfl dX3_readRain_21 (kI (P := MW Z e cX3_readRain 3 RX3 5 24 [(1, .int r2), (0, .ref (e.2.2.1 1))]) (fun r4 S5 h => ?_))
    refine m_istore_n (lv2 := [(2, .int r4), (1, .int r2), (0, .ref (e.2.2.1 1))]) dX3_readRain_24 rfl (by decide) rfl ?_
    refine m_iload_n dX3_readRain_25 0 rfl rfl ?_
    refine m_if_lt (tgt := 36) dX3_readRain_26 (by decide) (fun z => ?_) (fun z => ?_)
    · replace h := h.1 z
      refine m_iconst (v := 0) dX3_readRain_36 (by decide) ?_
      exact m_zret hR rfl ⟨_, rfl, h⟩ dX3_readRain_37
    · replace h := h.2 z
      refine m_aload_n dX3_readRain_29 2 rfl rfl ?_
      refine m_callV 1 [] (c_X3_takeStop h) (o_1 e _) rfl rfl q13_16 q13_17 q13_18 q1_15 q13_19 t_X3_takeStop rfl (by omega) (by decide) (Nat.le_of_ble_eq_true rfl) rfl dX3_readRain_30 (kI (P := MW Z e cX3_readRain 3 RX3 5 33 [(2, .int r4), (1, .int r2), (0, .ref (e.2.2.1 1))]) (fun r6 S7 h => ?_))
      refine m_if_ne (tgt := 38) dX3_readRain_33 (by decide) (fun z => ?_) (fun z => ?_)
      · replace h := h.1 z
        refine m_aload_n dX3_readRain_38 2 rfl rfl ?_
        refine m_get 1 1 (o_1 e _) rfl inlX3 (by decide) q2_23 rfl dX3_readRain_39 ?_
        refine m_get 4 5 (o_4 e _) rfl inlX2 (by decide) q14_13 rfl dX3_readRain_42 ?_
        refine m_iload_n dX3_readRain_45 1 rfl rfl ?_
        refine m_iload_n dX3_readRain_46 0 rfl rfl ?_
        refine m_iast 7 (a_7 e _) (aw_7 e _) h.1 dX3_readRain_47 (fun S8 eS8 => ?_)
        replace h := h.2 S8 eS8
        refine m_iconst (v := 1) dX3_readRain_48 (by decide) ?_
        exact m_zret hR rfl ⟨_, rfl, h⟩ dX3_readRain_49
      · replace h := h.2 z
        refine m_iconst (v := 0) dX3_readRain_36 (by decide) ?_
        exact m_zret hR rfl ⟨_, rfl, h⟩ dX3_readRain_37
  · replace h := h.2 z
    refine m_iconst (v := 0) dX3_readRain_16 (by decide) ?_
    exact m_zret hR rfl ⟨_, rfl, h⟩ dX3_readRain_17
def w_X2_addPerson (S0 : St) (p1 : Int32) (Q : St → Prop) : Prop :=
  (vp_in (S0.1 501 0) 3 ∧ ∀ S1 : St, S1 = setA S0 6 (upd (S0.1 6) (S0.1 501 0).toNatClampNeg p1) → ∀ S2 : St, S2 = setI S1 501 ((S1.1 501 0) + (1 : Int32)) → Q S2)
set_option maxRecDepth 100000 in
set_option maxHeartbeats 4000000 in
theorem c_X2_addPerson {e : GE} {S0 : St} {p1 : Int32} {Q : St → Prop} (h : w_X2_addPerson S0 p1 Q) : CT e yX2_addPerson cX2_addPerson 2 none 1 [.ref (e.2.2.1 4), .int p1] S0 (pV Q) := by
  refine CT.of (by decide) (Nat.le_of_ble_eq_true rfl) (fun Z hR => ?_)
  rw [w_X2_addPerson] at h
  show MW Z e cX2_addPerson 2 RX2 1 0 [(0, .ref (e.2.2.1 4)), (1, .int p1)] [] S0
  refine m_aload_n dX2_addPerson_0 0 rfl rfl ?_
  refine m_get 4 4 (o_4 e _) rfl inlX2 (by decide) q3_19 rfl dX2_addPerson_1 ?_
  refine m_aload_n dX2_addPerson_4 0 rfl rfl ?_
  refine m_get 4 1 (o_4 e _) rfl inlX2 (by decide) q3_15 rfl dX2_addPerson_5 ?_
  refine m_iload_n dX2_addPerson_8 1 rfl rfl ?_
  refine m_iast 6 (a_6 e _) (aw_6 e _) h.1 dX2_addPerson_9 (fun S1 eS1 => ?_)
  replace h := h.2 S1 eS1
  refine m_aload_n dX2_addPerson_10 0 rfl rfl ?_
  refine m_dup dX2_addPerson_11 rfl ?_
  refine m_get 4 1 (o_4 e _) rfl inlX2 (by decide) q3_15 rfl dX2_addPerson_12 ?_
  refine m_iconst (v := 1) dX2_addPerson_15 (by decide) ?_
  refine m_iadd dX2_addPerson_16 ?_
  refine m_put (S2 := setI S1 501 ((S1.1 501 0) + (1 : Int32))) 4 1 tyX2 tyX2_ok nmX2 (o_4 e _) rfl inlX2 (by decide) q3_15 rfl (tyX2_ok 1 (by decide)) rfl rfl (Nat.le_of_ble_eq_true rfl) (p_4_1 e _ _) dX2_addPerson_17 (fun S2 eS2 => ?_)
  replace h := h S2 eS2
  exact m_vret hR ⟨rfl, h⟩ dX2_addPerson_20
def w_X3_readPerson (S0 : St)  (Q : Int32 → St → Prop) : Prop :=
  (((S0.1 501 0) < (3 : Int32) → (w_X3_next S0  (fun S1 => (w_X3_take S1 (1 : Int32) (9 : Int32)  (fun r2 S3 => ((r2 < 0 → Q (0 : Int32) S3) ∧ (¬ r2 < 0 → (w_X3_takeStop S3  (fun r4 S5 => ((¬ r4 = 0 → (w_X2_addPerson S5 r2  (fun S6 => Q (1 : Int32) S6))) ∧ (r4 = 0 → Q (0 : Int32) S5))))))))))) ∧ (¬ (S0.1 501 0) < (3 : Int32) → Q (0 : Int32) S0))
set_option maxRecDepth 100000 in
set_option maxHeartbeats 4000000 in
theorem c_X3_readPerson {e : GE} {S0 : St}  {Q : Int32 → St → Prop} (h : w_X3_readPerson S0  Q) : CT e yX3_readPerson cX3_readPerson 2 (some .boolean) 5 [.ref (e.2.2.1 1)] S0 (pI Q) := by
  refine CT.of (by decide) (Nat.le_of_ble_eq_true rfl) (fun Z hR => ?_)
  rw [w_X3_readPerson] at h
  show MW Z e cX3_readPerson 2 RX3 5 0 [(0, .ref (e.2.2.1 1))] [] S0
  refine m_aload_n dX3_readPerson_0 0 rfl rfl ?_
  refine m_get 1 1 (o_1 e _) rfl inlX3 (by decide) q2_23 rfl dX3_readPerson_1 ?_
  refine m_get 4 1 (o_4 e _) rfl inlX2 (by decide) q14_4 rfl dX3_readPerson_4 ?_
  refine m_iconst (v := 3) dX3_readPerson_7 (by decide) ?_
  refine m_icmp_lt (tgt := 13) dX3_readPerson_8 (by decide) (fun z => ?_) (fun z => ?_)
  · replace h := h.1 z
    refine m_aload_n dX3_readPerson_13 0 rfl rfl ?_
    refine m_callV 1 [] (c_X3_next h) (o_1 e _) rfl rfl q10_4 q10_5 q10_6 q1_15 q10_7 t_X3_next rfl (by omega) (by decide) (Nat.le_of_ble_eq_true rfl) rfl dX3_readPerson_14 (kV (P := MW Z e cX3_readPerson 2 RX3 5 17 [(0, .ref (e.2.2.1 1))]) (fun S1 h => ?_))
    refine m_aload_n dX3_readPerson_17 0 rfl rfl ?_
    refine m_iconst (v := 1) dX3_readPerson_18 (by decide) ?_
    refine m_bipush (v := 9) dX3_readPerson_19 (by decide) ?_
    refine m_callV 1 [.int (1 : Int32), .int (9 : Int32)] (c_X3_take h) (o_1 e _) rfl rfl q13_12 q13_13 q13_14 q1_15 q13_15 t_X3_take rfl (by omega) (by decide) (Nat.le_of_ble_eq_true rfl) rfl dX3_readPerson_21 (kI (P := MW Z e cX3_readPerson 2 RX3 5 24 [(0, .ref (e.2.2.1 1))]) (fun r2 S3 h => ?_))
    refine m_istore_n (lv2 := [(1, .int r2), (0, .ref (e.2.2.1 1))]) dX3_readPerson_24 rfl (by decide) rfl ?_
    refine m_iload_n dX3_readPerson_25 0 rfl rfl ?_
    refine m_if_lt (tgt := 36) dX3_readPerson_26 (by decide) (fun z => ?_) (fun z => ?_)
    · replace h := h.1 z
      refine m_iconst (v := 0) dX3_readPerson_36 (by decide) ?_
      exact m_zret hR rfl ⟨_, rfl, h⟩ dX3_readPerson_37
    · replace h := h.2 z
      refine m_aload_n dX3_readPerson_29 1 rfl rfl ?_
      refine m_callV 1 [] (c_X3_takeStop h) (o_1 e _) rfl rfl q13_16 q13_17 q13_18 q1_15 q13_19 t_X3_takeStop rfl (by omega) (by decide) (Nat.le_of_ble_eq_true rfl) rfl dX3_readPerson_30 (kI (P := MW Z e cX3_readPerson 2 RX3 5 33 [(1, .int r2), (0, .ref (e.2.2.1 1))]) (fun r4 S5 h => ?_))
      refine m_if_ne (tgt := 38) dX3_readPerson_33 (by decide) (fun z => ?_) (fun z => ?_)
      · replace h := h.1 z
        refine m_aload_n dX3_readPerson_38 1 rfl rfl ?_
        refine m_get 1 1 (o_1 e _) rfl inlX3 (by decide) q2_23 rfl dX3_readPerson_39 ?_
        refine m_iload_n dX3_readPerson_42 0 rfl rfl ?_
        refine m_callV 4 [.int r2] (c_X2_addPerson h) (o_4 e _) rfl rfl q14_5 q14_6 q14_7 q1_21 q14_8 t_X2_addPerson rfl (by omega) (by decide) (Nat.le_of_ble_eq_true rfl) rfl dX3_readPerson_43 (kV (P := MW Z e cX3_readPerson 2 RX3 5 46 [(1, .int r2), (0, .ref (e.2.2.1 1))]) (fun S6 h => ?_))
        refine m_iconst (v := 1) dX3_readPerson_46 (by decide) ?_
        exact m_zret hR rfl ⟨_, rfl, h⟩ dX3_readPerson_47
      · replace h := h.2 z
        refine m_iconst (v := 0) dX3_readPerson_36 (by decide) ?_
        exact m_zret hR rfl ⟨_, rfl, h⟩ dX3_readPerson_37
  · replace h := h.2 z
    refine m_iconst (v := 0) dX3_readPerson_11 (by decide) ?_
    exact m_zret hR rfl ⟨_, rfl, h⟩ dX3_readPerson_12
def w_X2_addBar (S0 : St) (p1 : Int32) (Q : St → Prop) : Prop :=
  (vp_in (S0.1 500 0) 6 ∧ ∀ S1 : St, S1 = setA S0 5 (upd (S0.1 5) (S0.1 500 0).toNatClampNeg p1) → ∀ S2 : St, S2 = setI S1 500 ((S1.1 500 0) + (1 : Int32)) → Q S2)
set_option maxRecDepth 100000 in
set_option maxHeartbeats 4000000 in
theorem c_X2_addBar {e : GE} {S0 : St} {p1 : Int32} {Q : St → Prop} (h : w_X2_addBar S0 p1 Q) : CT e yX2_addBar cX2_addBar 2 none 1 [.ref (e.2.2.1 4), .int p1] S0 (pV Q) := by
  refine CT.of (by decide) (Nat.le_of_ble_eq_true rfl) (fun Z hR => ?_)
  rw [w_X2_addBar] at h
  show MW Z e cX2_addBar 2 RX2 1 0 [(0, .ref (e.2.2.1 4)), (1, .int p1)] [] S0
  refine m_aload_n dX2_addBar_0 0 rfl rfl ?_
  refine m_get 4 3 (o_4 e _) rfl inlX2 (by decide) q3_18 rfl dX2_addBar_1 ?_
  refine m_aload_n dX2_addBar_4 0 rfl rfl ?_
  refine m_get 4 0 (o_4 e _) rfl inlX2 (by decide) q3_14 rfl dX2_addBar_5 ?_
  refine m_iload_n dX2_addBar_8 1 rfl rfl ?_
  refine m_iast 5 (a_5 e _) (aw_5 e _) h.1 dX2_addBar_9 (fun S1 eS1 => ?_)
  replace h := h.2 S1 eS1
  refine m_aload_n dX2_addBar_10 0 rfl rfl ?_
  refine m_dup dX2_addBar_11 rfl ?_
  refine m_get 4 0 (o_4 e _) rfl inlX2 (by decide) q3_14 rfl dX2_addBar_12 ?_
  refine m_iconst (v := 1) dX2_addBar_15 (by decide) ?_
  refine m_iadd dX2_addBar_16 ?_
  refine m_put (S2 := setI S1 500 ((S1.1 500 0) + (1 : Int32))) 4 0 tyX2 tyX2_ok nmX2 (o_4 e _) rfl inlX2 (by decide) q3_14 rfl (tyX2_ok 0 (by decide)) rfl rfl (Nat.le_of_ble_eq_true rfl) (p_4_0 e _ _) dX2_addBar_17 (fun S2 eS2 => ?_)
  replace h := h S2 eS2
  exact m_vret hR ⟨rfl, h⟩ dX2_addBar_20
def w_X3_readBar (S0 : St)  (Q : Int32 → St → Prop) : Prop :=
  (((S0.1 500 0) < (6 : Int32) → (w_X3_next S0  (fun S1 => (w_X3_take S1 (1 : Int32) (3 : Int32)  (fun r2 S3 => ((r2 < 0 → Q (0 : Int32) S3) ∧ (¬ r2 < 0 → (w_X3_takeStop S3  (fun r4 S5 => ((¬ r4 = 0 → (w_X2_addBar S5 r2  (fun S6 => Q (1 : Int32) S6))) ∧ (r4 = 0 → Q (0 : Int32) S5))))))))))) ∧ (¬ (S0.1 500 0) < (6 : Int32) → Q (0 : Int32) S0))
set_option maxRecDepth 100000 in
set_option maxHeartbeats 4000000 in
theorem c_X3_readBar {e : GE} {S0 : St}  {Q : Int32 → St → Prop} (h : w_X3_readBar S0  Q) : CT e yX3_readBar cX3_readBar 2 (some .boolean) 5 [.ref (e.2.2.1 1)] S0 (pI Q) := by
  refine CT.of (by decide) (Nat.le_of_ble_eq_true rfl) (fun Z hR => ?_)
  rw [w_X3_readBar] at h
  show MW Z e cX3_readBar 2 RX3 5 0 [(0, .ref (e.2.2.1 1))] [] S0
  refine m_aload_n dX3_readBar_0 0 rfl rfl ?_
  refine m_get 1 1 (o_1 e _) rfl inlX3 (by decide) q2_23 rfl dX3_readBar_1 ?_
  refine m_get 4 0 (o_4 e _) rfl inlX2 (by decide) q13_11 rfl dX3_readBar_4 ?_
  refine m_bipush (v := 6) dX3_readBar_7 (by decide) ?_
  refine m_icmp_lt (tgt := 14) dX3_readBar_9 (by decide) (fun z => ?_) (fun z => ?_)
  · replace h := h.1 z
    refine m_aload_n dX3_readBar_14 0 rfl rfl ?_
    refine m_callV 1 [] (c_X3_next h) (o_1 e _) rfl rfl q10_4 q10_5 q10_6 q1_15 q10_7 t_X3_next rfl (by omega) (by decide) (Nat.le_of_ble_eq_true rfl) rfl dX3_readBar_15 (kV (P := MW Z e cX3_readBar 2 RX3 5 18 [(0, .ref (e.2.2.1 1))]) (fun S1 h => ?_))
    refine m_aload_n dX3_readBar_18 0 rfl rfl ?_
    refine m_iconst (v := 1) dX3_readBar_19 (by decide) ?_
    refine m_iconst (v := 3) dX3_readBar_20 (by decide) ?_
    refine m_callV 1 [.int (1 : Int32), .int (3 : Int32)] (c_X3_take h) (o_1 e _) rfl rfl q13_12 q13_13 q13_14 q1_15 q13_15 t_X3_take rfl (by omega) (by decide) (Nat.le_of_ble_eq_true rfl) rfl dX3_readBar_21 (kI (P := MW Z e cX3_readBar 2 RX3 5 24 [(0, .ref (e.2.2.1 1))]) (fun r2 S3 h => ?_))
    refine m_istore_n (lv2 := [(1, .int r2), (0, .ref (e.2.2.1 1))]) dX3_readBar_24 rfl (by decide) rfl ?_
    refine m_iload_n dX3_readBar_25 0 rfl rfl ?_
    refine m_if_lt (tgt := 36) dX3_readBar_26 (by decide) (fun z => ?_) (fun z => ?_)
    · replace h := h.1 z
      refine m_iconst (v := 0) dX3_readBar_36 (by decide) ?_
      exact m_zret hR rfl ⟨_, rfl, h⟩ dX3_readBar_37
    · replace h := h.2 z
      refine m_aload_n dX3_readBar_29 1 rfl rfl ?_
      refine m_callV 1 [] (c_X3_takeStop h) (o_1 e _) rfl rfl q13_16 q13_17 q13_18 q1_15 q13_19 t_X3_takeStop rfl (by omega) (by decide) (Nat.le_of_ble_eq_true rfl) rfl dX3_readBar_30 (kI (P := MW Z e cX3_readBar 2 RX3 5 33 [(1, .int r2), (0, .ref (e.2.2.1 1))]) (fun r4 S5 h => ?_))
      refine m_if_ne (tgt := 38) dX3_readBar_33 (by decide) (fun z => ?_) (fun z => ?_)
      · replace h := h.1 z
        refine m_aload_n dX3_readBar_38 1 rfl rfl ?_
        refine m_get 1 1 (o_1 e _) rfl inlX3 (by decide) q2_23 rfl dX3_readBar_39 ?_
        refine m_iload_n dX3_readBar_42 0 rfl rfl ?_
        refine m_callV 4 [.int r2] (c_X2_addBar h) (o_4 e _) rfl rfl q13_20 q13_21 q13_22 q1_21 q13_23 t_X2_addBar rfl (by omega) (by decide) (Nat.le_of_ble_eq_true rfl) rfl dX3_readBar_43 (kV (P := MW Z e cX3_readBar 2 RX3 5 46 [(1, .int r2), (0, .ref (e.2.2.1 1))]) (fun S6 h => ?_))
        refine m_iconst (v := 1) dX3_readBar_46 (by decide) ?_
        exact m_zret hR rfl ⟨_, rfl, h⟩ dX3_readBar_47
      · replace h := h.2 z
        refine m_iconst (v := 0) dX3_readBar_36 (by decide) ?_
        exact m_zret hR rfl ⟨_, rfl, h⟩ dX3_readBar_37
  · replace h := h.2 z
    refine m_iconst (v := 0) dX3_readBar_12 (by decide) ?_
    exact m_zret hR rfl ⟨_, rfl, h⟩ dX3_readBar_13
def w_X3_readItem (S0 : St)  (Q : Int32 → St → Prop) : Prop :=
  (((S0.1 202 0) = (1 : Int32) → (w_X4_isWord S0 (S0.1 203 0) (S0.1 204 0) 0  (fun r1 => ((r1 = 0 → (w_X4_isWord S0 (S0.1 203 0) (S0.1 204 0) 1  (fun r2 => ((r2 = 0 → (w_X4_isWord S0 (S0.1 203 0) (S0.1 204 0) 2  (fun r3 => ((r3 = 0 → (w_X4_isWord S0 (S0.1 203 0) (S0.1 204 0) 3  (fun r4 => ((r4 = 0 → Q (0 : Int32) S0) ∧ (¬ r4 = 0 → (w_X3_readPaint S0  (fun r5 S6 => ((r5 = 0 → Q (0 : Int32) S6) ∧ (¬ r5 = 0 → Q (1 : Int32) S6))))))))) ∧ (¬ r3 = 0 → (w_X3_readRain S0  (fun r7 S8 => (zok r7 ∧ Q r7 S8)))))))) ∧ (¬ r2 = 0 → (w_X3_readPerson S0  (fun r9 S10 => (zok r9 ∧ Q r9 S10)))))))) ∧ (¬ r1 = 0 → (w_X3_readBar S0  (fun r11 S12 => (zok r11 ∧ Q r11 S12)))))))) ∧ (¬ (S0.1 202 0) = (1 : Int32) → Q (0 : Int32) S0))
set_option maxRecDepth 100000 in
set_option maxHeartbeats 4000000 in
theorem c_X3_readItem {e : GE} {S0 : St}  {Q : Int32 → St → Prop} (h : w_X3_readItem S0  Q) : CT e yX3_readItem cX3_readItem 1 (some .boolean) 8 [.ref (e.2.2.1 1)] S0 (pI Q) := by
  refine CT.of (by decide) (Nat.le_of_ble_eq_true rfl) (fun Z hR => ?_)
  rw [w_X3_readItem] at h
  show MW Z e cX3_readItem 1 RX3 8 0 [(0, .ref (e.2.2.1 1))] [] S0
  refine m_aload_n dX3_readItem_0 0 rfl rfl ?_
  refine m_get 1 2 (o_1 e _) rfl inlX3 (by decide) q3_0 rfl dX3_readItem_1 ?_
  refine m_iconst (v := 1) dX3_readItem_4 (by decide) ?_
  refine m_icmp_eq (tgt := 10) dX3_readItem_5 (by decide) (fun z => ?_) (fun z => ?_)
  · replace h := h.1 z
    refine m_aload_n dX3_readItem_10 0 rfl rfl ?_
    refine m_get 1 0 (o_1 e _) rfl inlX3 (by decide) q2_21 rfl dX3_readItem_11 ?_
    refine m_aload_n dX3_readItem_14 0 rfl rfl ?_
    refine m_get 1 3 (o_1 e _) rfl inlX3 (by decide) q3_1 rfl dX3_readItem_15 ?_
    refine m_aload_n dX3_readItem_18 0 rfl rfl ?_
    refine m_get 1 4 (o_1 e _) rfl inlX3 (by decide) q3_2 rfl dX3_readItem_19 ?_
    refine m_ldcS (i := 0) (tx := "bar") rfl (by decide) rfl dX3_readItem_22 ?_
    refine m_callV 2 [.int (S0.1 203 0), .int (S0.1 204 0), .ref (e.2.2.2.1 0)] (c_X4_isWord (by decide) h) (o_2 e _) rfl rfl q11_1 q11_2 q11_3 q2_20 q11_4 t_X4_isWord rfl (by omega) (by decide) (Nat.le_of_ble_eq_true rfl) rfl dX3_readItem_24 (kR (P := MW Z e cX3_readItem 1 RX3 8 27 [(0, .ref (e.2.2.1 1))]) (fun r1 h => ?_))
    refine m_if_eq (tgt := 35) dX3_readItem_27 (by decide) (fun z => ?_) (fun z => ?_)
    · replace h := h.1 z
      refine m_aload_n dX3_readItem_35 0 rfl rfl ?_
      refine m_get 1 0 (o_1 e _) rfl inlX3 (by decide) q2_21 rfl dX3_readItem_36 ?_
      refine m_aload_n dX3_readItem_39 0 rfl rfl ?_
      refine m_get 1 3 (o_1 e _) rfl inlX3 (by decide) q3_1 rfl dX3_readItem_40 ?_
      refine m_aload_n dX3_readItem_43 0 rfl rfl ?_
      refine m_get 1 4 (o_1 e _) rfl inlX3 (by decide) q3_2 rfl dX3_readItem_44 ?_
      refine m_ldcS (i := 1) (tx := "person") rfl (by decide) rfl dX3_readItem_47 ?_
      refine m_callV 2 [.int (S0.1 203 0), .int (S0.1 204 0), .ref (e.2.2.2.1 1)] (c_X4_isWord (by decide) h) (o_2 e _) rfl rfl q11_1 q11_2 q11_3 q2_20 q11_4 t_X4_isWord rfl (by omega) (by decide) (Nat.le_of_ble_eq_true rfl) rfl dX3_readItem_49 (kR (P := MW Z e cX3_readItem 1 RX3 8 52 [(0, .ref (e.2.2.1 1))]) (fun r2 h => ?_))
      refine m_if_eq (tgt := 60) dX3_readItem_52 (by decide) (fun z => ?_) (fun z => ?_)
      · replace h := h.1 z
        refine m_aload_n dX3_readItem_60 0 rfl rfl ?_
        refine m_get 1 0 (o_1 e _) rfl inlX3 (by decide) q2_21 rfl dX3_readItem_61 ?_
        refine m_aload_n dX3_readItem_64 0 rfl rfl ?_
        refine m_get 1 3 (o_1 e _) rfl inlX3 (by decide) q3_1 rfl dX3_readItem_65 ?_
        refine m_aload_n dX3_readItem_68 0 rfl rfl ?_
        refine m_get 1 4 (o_1 e _) rfl inlX3 (by decide) q3_2 rfl dX3_readItem_69 ?_
        refine m_ldcS (i := 2) (tx := "rain") rfl (by decide) rfl dX3_readItem_72 ?_
        refine m_callV 2 [.int (S0.1 203 0), .int (S0.1 204 0), .ref (e.2.2.2.1 2)] (c_X4_isWord (by decide) h) (o_2 e _) rfl rfl q11_1 q11_2 q11_3 q2_20 q11_4 t_X4_isWord rfl (by omega) (by decide) (Nat.le_of_ble_eq_true rfl) rfl dX3_readItem_74 (kR (P := MW Z e cX3_readItem 1 RX3 8 77 [(0, .ref (e.2.2.1 1))]) (fun r3 h => ?_))
        refine m_if_eq (tgt := 85) dX3_readItem_77 (by decide) (fun z => ?_) (fun z => ?_)
        · replace h := h.1 z
          refine m_aload_n dX3_readItem_85 0 rfl rfl ?_
          refine m_get 1 0 (o_1 e _) rfl inlX3 (by decide) q2_21 rfl dX3_readItem_86 ?_
          refine m_aload_n dX3_readItem_89 0 rfl rfl ?_
          refine m_get 1 3 (o_1 e _) rfl inlX3 (by decide) q3_1 rfl dX3_readItem_90 ?_
          refine m_aload_n dX3_readItem_93 0 rfl rfl ?_
          refine m_get 1 4 (o_1 e _) rfl inlX3 (by decide) q3_2 rfl dX3_readItem_94 ?_
          refine m_ldcS (i := 3) (tx := "paint") rfl (by decide) rfl dX3_readItem_97 ?_
          refine m_callV 2 [.int (S0.1 203 0), .int (S0.1 204 0), .ref (e.2.2.2.1 3)] (c_X4_isWord (by decide) h) (o_2 e _) rfl rfl q11_1 q11_2 q11_3 q2_20 q11_4 t_X4_isWord rfl (by omega) (by decide) (Nat.le_of_ble_eq_true rfl) rfl dX3_readItem_99 (kR (P := MW Z e cX3_readItem 1 RX3 8 102 [(0, .ref (e.2.2.1 1))]) (fun r4 h => ?_))
          refine m_if_eq (tgt := 116) dX3_readItem_102 (by decide) (fun z => ?_) (fun z => ?_)
          · replace h := h.1 z
            refine m_iconst (v := 0) dX3_readItem_116 (by decide) ?_
            exact m_zret hR rfl ⟨_, rfl, h⟩ dX3_readItem_117
          · replace h := h.2 z
            refine m_aload_n dX3_readItem_105 0 rfl rfl ?_
            refine m_callV 1 [] (c_X3_readPaint h) (o_1 e _) rfl rfl q14_14 q14_15 q14_16 q1_15 q14_17 t_X3_readPaint rfl (by omega) (by decide) (Nat.le_of_ble_eq_true rfl) rfl dX3_readItem_106 (kI (P := MW Z e cX3_readItem 1 RX3 8 109 [(0, .ref (e.2.2.1 1))]) (fun r5 S6 h => ?_))
            refine m_if_eq (tgt := 116) dX3_readItem_109 (by decide) (fun z => ?_) (fun z => ?_)
            · replace h := h.1 z
              refine m_iconst (v := 0) dX3_readItem_116 (by decide) ?_
              exact m_zret hR rfl ⟨_, rfl, h⟩ dX3_readItem_117
            · replace h := h.2 z
              refine m_iconst (v := 1) dX3_readItem_112 (by decide) ?_
              refine m_goto (tgt := 117) dX3_readItem_113 (by decide) ?_
              exact m_zret hR rfl ⟨_, rfl, h⟩ dX3_readItem_117
        · replace h := h.2 z
          refine m_aload_n dX3_readItem_80 0 rfl rfl ?_
          refine m_callV 1 [] (c_X3_readRain h) (o_1 e _) rfl rfl q14_9 q14_10 q14_11 q1_15 q14_12 t_X3_readRain rfl (by omega) (by decide) (Nat.le_of_ble_eq_true rfl) rfl dX3_readItem_81 (kI (P := MW Z e cX3_readItem 1 RX3 8 84 [(0, .ref (e.2.2.1 1))]) (fun r7 S8 h => ?_))
          exact m_zret hR h.1 ⟨_, rfl, h.2⟩ dX3_readItem_84
      · replace h := h.2 z
        refine m_aload_n dX3_readItem_55 0 rfl rfl ?_
        refine m_callV 1 [] (c_X3_readPerson h) (o_1 e _) rfl rfl q14_0 q14_1 q14_2 q1_15 q14_3 t_X3_readPerson rfl (by omega) (by decide) (Nat.le_of_ble_eq_true rfl) rfl dX3_readItem_56 (kI (P := MW Z e cX3_readItem 1 RX3 8 59 [(0, .ref (e.2.2.1 1))]) (fun r9 S10 h => ?_))
        exact m_zret hR h.1 ⟨_, rfl, h.2⟩ dX3_readItem_59
    · replace h := h.2 z
      refine m_aload_n dX3_readItem_30 0 rfl rfl ?_
      refine m_callV 1 [] (c_X3_readBar h) (o_1 e _) rfl rfl q13_7 q13_8 q13_9 q1_15 q13_10 t_X3_readBar rfl (by omega) (by decide) (Nat.le_of_ble_eq_true rfl) rfl dX3_readItem_31 (kI (P := MW Z e cX3_readItem 1 RX3 8 34 [(0, .ref (e.2.2.1 1))]) (fun r11 S12 h => ?_))
      exact m_zret hR h.1 ⟨_, rfl, h.2⟩ dX3_readItem_34
  · replace h := h.2 z
    refine m_iconst (v := 0) dX3_readItem_8 (by decide) ?_
    exact m_zret hR rfl ⟨_, rfl, h⟩ dX3_readItem_9
def X3_read_L20 (Q : Int32 → St → Prop) (kx : St → Int32 → Prop) : Nat → St → Int32 → Int32 → Prop
  | 0 => fun _ _ _ => False
  | n + 1 => (fun (rec : St → Int32 → Int32 → Prop) => fun (S4 : St) (v5 : Int32) (v6 : Int32) => (((300 : Int32) ≤ v6 → kx S4 v5) ∧ (¬ (300 : Int32) ≤ v6 → (((S4.1 202 0) = 0 → kx S4 v5) ∧ (¬ (S4.1 202 0) = 0 → (w_X3_readItem S4  (fun r7 S8 => ((¬ r7 = 0 → ∀ x9 : Int32, x9 = v5 + (1 : Int32) → ∀ x10 : Int32, x10 = v6 + (1 : Int32) → rec S8 x9 x10) ∧ (r7 = 0 → Q ((-10 : Int32) - (S8.1 203 0)) S8))))))))) (X3_read_L20 Q kx n)
def w_X3_read (S0 : St)  (Q : Int32 → St → Prop) : Prop :=
  (w_X2_empty S0  (fun S1 => ∀ S2 : St, S2 = setI S1 204 (0 : Int32) → (w_X3_next S2  (fun S3 => (∃ n : Nat, X3_read_L20 Q (fun (S13 : St) (v14 : Int32) => Q v14 S13) n S3 (0 : Int32) (0 : Int32))))))
set_option maxRecDepth 100000 in
set_option maxHeartbeats 4000000 in
theorem l_X3_read_L20 {Z : Zt} {e : GE} {Q : Int32 → St → Prop} {kx : St → Int32 → Prop} (hR : RT Z e (some .int) (pI Q)) (hk : ∀ (S11 : St) (v12 : Int32), kx S11 v12 → MW Z e cX3_read 3 RX3 9 58 [(1, .int v12)] [] S11) : ∀ (n : Nat) (S4 : St) (v5 : Int32) (v6 : Int32), X3_read_L20 Q kx n S4 v5 v6 → MW Z e cX3_read 3 RX3 9 20 [(0, .ref (e.2.2.1 1)), (1, .int v5), (2, .int v6)] [] S4 := by
  intro n
  induction n with
  | zero =>
    intro S4 v5 v6 h
    exact h.elim
  | succ n ih =>
    intro S4 v5 v6 h
    rw [X3_read_L20] at h
    refine m_iload_n dX3_read_20 2 rfl rfl ?_
    refine m_sipush (v := 300) dX3_read_21 (by decide) ?_
    refine m_icmp_ge (tgt := 58) dX3_read_24 (by decide) (fun z => ?_) (fun z => ?_)
    · replace h := h.1 z
      refine m_loc [1] rfl ?_
      exact hk S4 v5 h
    · replace h := h.2 z
      refine m_aload_n dX3_read_27 0 rfl rfl ?_
      refine m_get 1 2 (o_1 e _) rfl inlX3 (by decide) q3_0 rfl dX3_read_28 ?_
      refine m_if_eq (tgt := 58) dX3_read_31 (by decide) (fun z => ?_) (fun z => ?_)
      · replace h := h.1 z
        refine m_loc [1] rfl ?_
        exact hk S4 v5 h
      · replace h := h.2 z
        refine m_aload_n dX3_read_34 0 rfl rfl ?_
        refine m_callV 1 [] (c_X3_readItem h) (o_1 e _) rfl rfl q10_21 q10_22 q10_23 q1_15 q11_0 t_X3_readItem rfl (by omega) (by decide) (Nat.le_of_ble_eq_true rfl) rfl dX3_read_35 (kI (P := MW Z e cX3_read 3 RX3 9 38 [(0, .ref (e.2.2.1 1)), (1, .int v5), (2, .int v6)]) (fun r7 S8 h => ?_))
        refine m_if_ne (tgt := 49) dX3_read_38 (by decide) (fun z => ?_) (fun z => ?_)
        · replace h := h.1 z
          obtain ⟨x9, ex9⟩ : ∃ y : Int32, y = v5 + (1 : Int32) := ⟨_, rfl⟩
          replace h := h x9 ex9
          refine m_iinc (v := x9) (lv2 := [(1, .int x9), (0, .ref (e.2.2.1 1)), (2, .int v6)]) dX3_read_49 1 rfl ex9.symm (by decide) rfl ?_
          obtain ⟨x10, ex10⟩ : ∃ y : Int32, y = v6 + (1 : Int32) := ⟨_, rfl⟩
          replace h := h x10 ex10
          refine m_iinc (v := x10) (lv2 := [(2, .int x10), (1, .int x9), (0, .ref (e.2.2.1 1))]) dX3_read_52 2 rfl ex10.symm (by decide) rfl ?_
          refine m_goto (tgt := 20) dX3_read_55 (by decide) ?_
          refine m_loc [2, 1, 0] rfl ?_
          exact ih S8 x9 x10 h
        · replace h := h.2 z
          refine m_bipush (v := -10) dX3_read_41 (by decide) ?_
          refine m_aload_n dX3_read_43 0 rfl rfl ?_
          refine m_get 1 3 (o_1 e _) rfl inlX3 (by decide) q3_1 rfl dX3_read_44 ?_
          refine m_isub dX3_read_47 ?_
          exact m_iret hR ⟨_, rfl, h⟩ dX3_read_48
set_option maxRecDepth 100000 in
set_option maxHeartbeats 4000000 in
theorem c_X3_read {e : GE} {S0 : St}  {Q : Int32 → St → Prop} (h : w_X3_read S0  Q) : CT e yX3_read cX3_read 3 (some .int) 9 [.ref (e.2.2.1 1)] S0 (pI Q) := by
  refine CT.of (by decide) (Nat.le_of_ble_eq_true rfl) (fun Z hR => ?_)
  rw [w_X3_read] at h
  show MW Z e cX3_read 3 RX3 9 0 [(0, .ref (e.2.2.1 1))] [] S0
  refine m_aload_n dX3_read_0 0 rfl rfl ?_
  refine m_get 1 1 (o_1 e _) rfl inlX3 (by decide) q2_23 rfl dX3_read_1 ?_
  refine m_callV 4 [] (c_X2_empty h) (o_4 e _) rfl rfl q10_0 q10_1 q10_2 q1_21 q10_3 t_X2_empty rfl (by omega) (by decide) (Nat.le_of_ble_eq_true rfl) rfl dX3_read_4 (kV (P := MW Z e cX3_read 3 RX3 9 7 [(0, .ref (e.2.2.1 1))]) (fun S1 h => ?_))
  refine m_aload_n dX3_read_7 0 rfl rfl ?_
  refine m_iconst (v := 0) dX3_read_8 (by decide) ?_
  refine m_put (S2 := setI S1 204 (0 : Int32)) 1 4 tyX3 tyX3_ok nmX3 (o_1 e _) rfl inlX3 (by decide) q3_2 rfl (tyX3_ok 4 (by decide)) rfl rfl (Nat.le_of_ble_eq_true rfl) (p_1_4 e _ _) dX3_read_9 (fun S2 eS2 => ?_)
  replace h := h S2 eS2
  refine m_aload_n dX3_read_12 0 rfl rfl ?_
  refine m_callV 1 [] (c_X3_next h) (o_1 e _) rfl rfl q10_4 q10_5 q10_6 q1_15 q10_7 t_X3_next rfl (by omega) (by decide) (Nat.le_of_ble_eq_true rfl) rfl dX3_read_13 (kV (P := MW Z e cX3_read 3 RX3 9 16 [(0, .ref (e.2.2.1 1))]) (fun S3 h => ?_))
  refine m_iconst (v := 0) dX3_read_16 (by decide) ?_
  refine m_istore_n (lv2 := [(1, .int (0 : Int32)), (0, .ref (e.2.2.1 1))]) dX3_read_17 rfl (by decide) rfl ?_
  refine m_iconst (v := 0) dX3_read_18 (by decide) ?_
  refine m_istore_n (lv2 := [(2, .int (0 : Int32)), (1, .int (0 : Int32)), (0, .ref (e.2.2.1 1))]) dX3_read_19 rfl (by decide) rfl ?_
  obtain ⟨n, h⟩ := h
  refine m_loc [2, 1, 0] rfl ?_
  refine l_X3_read_L20 hR (fun S13 v14 h => ?_) n S3 (0 : Int32) (0 : Int32) h
  refine m_iload_n dX3_read_58 0 rfl rfl ?_
  exact m_iret hR ⟨_, rfl, h⟩ dX3_read_59
def w_X2_become (S0 : St)  (Q : St → Prop) : Prop :=
  ∀ S1 : St, S1 = setI S0 1200 (S0.1 500 0) → ∀ S2 : St, S2 = setI S1 1201 (S1.1 501 0) → ∀ S3 : St, S3 = setI S2 1202 (S2.1 502 0) → (∀ S4 : St, S4 = setA S3 12 (S3.1 5) → (∀ S5 : St, S5 = setA S4 13 (S4.1 6) → (∀ S6 : St, S6 = setA S5 14 (S5.1 7) → (∀ S7 : St, S7 = setA S6 15 (S6.1 8) → (∀ S8 : St, S8 = setA S7 16 (S7.1 9) → (∀ S9 : St, S9 = setA S8 17 (S8.1 10) → Q S9))))))
set_option maxRecDepth 100000 in
set_option maxHeartbeats 4000000 in
theorem c_X2_become {e : GE} {S0 : St}  {Q : St → Prop} (h : w_X2_become S0  Q) : CT e yX2_become cX2_become 2 none 3 [.ref (e.2.2.1 11), .ref (e.2.2.1 4)] S0 (pV Q) := by
  refine CT.of (by decide) (Nat.le_of_ble_eq_true rfl) (fun Z hR => ?_)
  rw [w_X2_become] at h
  show MW Z e cX2_become 2 RX2 3 0 [(0, .ref (e.2.2.1 11)), (1, .ref (e.2.2.1 4))] [] S0
  refine m_aload_n dX2_become_0 0 rfl rfl ?_
  refine m_aload_n dX2_become_1 1 rfl rfl ?_
  refine m_get 4 0 (o_4 e _) rfl inlX2 (by decide) q3_14 rfl dX2_become_2 ?_
  refine m_put (S2 := setI S0 1200 (S0.1 500 0)) 11 0 tyX2 tyX2_ok nmX2 (o_11 e _) rfl inlX2 (by decide) q3_14 rfl (tyX2_ok 0 (by decide)) rfl rfl (Nat.le_of_ble_eq_true rfl) (p_11_0 e _ _) dX2_become_5 (fun S1 eS1 => ?_)
  replace h := h S1 eS1
  refine m_aload_n dX2_become_8 0 rfl rfl ?_
  refine m_aload_n dX2_become_9 1 rfl rfl ?_
  refine m_get 4 1 (o_4 e _) rfl inlX2 (by decide) q3_15 rfl dX2_become_10 ?_
  refine m_put (S2 := setI S1 1201 (S1.1 501 0)) 11 1 tyX2 tyX2_ok nmX2 (o_11 e _) rfl inlX2 (by decide) q3_15 rfl (tyX2_ok 1 (by decide)) rfl rfl (Nat.le_of_ble_eq_true rfl) (p_11_1 e _ _) dX2_become_13 (fun S2 eS2 => ?_)
  replace h := h S2 eS2
  refine m_aload_n dX2_become_16 0 rfl rfl ?_
  refine m_aload_n dX2_become_17 1 rfl rfl ?_
  refine m_get 4 2 (o_4 e _) rfl inlX2 (by decide) q3_16 rfl dX2_become_18 ?_
  refine m_put (S2 := setI S2 1202 (S2.1 502 0)) 11 2 tyX2 tyX2_ok nmX2 (o_11 e _) rfl inlX2 (by decide) q3_16 rfl (tyX2_ok 2 (by decide)) rfl rfl (Nat.le_of_ble_eq_true rfl) (p_11_2 e _ _) dX2_become_21 (fun S3 eS3 => ?_)
  replace h := h S3 eS3
  refine m_aload_n dX2_become_24 1 rfl rfl ?_
  refine m_get 4 3 (o_4 e _) rfl inlX2 (by decide) q3_18 rfl dX2_become_25 ?_
  refine m_iconst (v := 0) dX2_become_28 (by decide) ?_
  refine m_aload_n dX2_become_29 0 rfl rfl ?_
  refine m_get 11 3 (o_11 e _) rfl inlX2 (by decide) q3_18 rfl dX2_become_30 ?_
  refine m_iconst (v := 0) dX2_become_33 (by decide) ?_
  refine m_bipush (v := 6) dX2_become_34 (by decide) ?_
  refine m_copy (S2 := setA S3 12 (S3.1 5)) 5 12 q15_3 q15_4 q15_5 q15_6 (a_5 e _) (a_12 e _) (by decide) (by decide) (by decide) (aw_12 e _ _) (by omega) (Nat.le_of_ble_eq_true rfl) dX2_become_36 (fun S4 eS4 => ?_)
  replace h := h S4 eS4
  refine m_aload_n dX2_become_39 1 rfl rfl ?_
  refine m_get 4 4 (o_4 e _) rfl inlX2 (by decide) q3_19 rfl dX2_become_40 ?_
  refine m_iconst (v := 0) dX2_become_43 (by decide) ?_
  refine m_aload_n dX2_become_44 0 rfl rfl ?_
  refine m_get 11 4 (o_11 e _) rfl inlX2 (by decide) q3_19 rfl dX2_become_45 ?_
  refine m_iconst (v := 0) dX2_become_48 (by decide) ?_
  refine m_iconst (v := 3) dX2_become_49 (by decide) ?_
  refine m_copy (S2 := setA S4 13 (S4.1 6)) 6 13 q15_3 q15_4 q15_5 q15_6 (a_6 e _) (a_13 e _) (by decide) (by decide) (by decide) (aw_13 e _ _) (by omega) (Nat.le_of_ble_eq_true rfl) dX2_become_50 (fun S5 eS5 => ?_)
  replace h := h S5 eS5
  refine m_aload_n dX2_become_53 1 rfl rfl ?_
  refine m_get 4 5 (o_4 e _) rfl inlX2 (by decide) q3_20 rfl dX2_become_54 ?_
  refine m_iconst (v := 0) dX2_become_57 (by decide) ?_
  refine m_aload_n dX2_become_58 0 rfl rfl ?_
  refine m_get 11 5 (o_11 e _) rfl inlX2 (by decide) q3_20 rfl dX2_become_59 ?_
  refine m_iconst (v := 0) dX2_become_62 (by decide) ?_
  refine m_bipush (v := 10) dX2_become_63 (by decide) ?_
  refine m_copy (S2 := setA S5 14 (S5.1 7)) 7 14 q15_3 q15_4 q15_5 q15_6 (a_7 e _) (a_14 e _) (by decide) (by decide) (by decide) (aw_14 e _ _) (by omega) (Nat.le_of_ble_eq_true rfl) dX2_become_65 (fun S6 eS6 => ?_)
  replace h := h S6 eS6
  refine m_aload_n dX2_become_68 1 rfl rfl ?_
  refine m_get 4 6 (o_4 e _) rfl inlX2 (by decide) q3_21 rfl dX2_become_69 ?_
  refine m_iconst (v := 0) dX2_become_72 (by decide) ?_
  refine m_aload_n dX2_become_73 0 rfl rfl ?_
  refine m_get 11 6 (o_11 e _) rfl inlX2 (by decide) q3_21 rfl dX2_become_74 ?_
  refine m_iconst (v := 0) dX2_become_77 (by decide) ?_
  refine m_bipush (v := 8) dX2_become_78 (by decide) ?_
  refine m_copy (S2 := setA S6 15 (S6.1 8)) 8 15 q15_3 q15_4 q15_5 q15_6 (a_8 e _) (a_15 e _) (by decide) (by decide) (by decide) (aw_15 e _ _) (by omega) (Nat.le_of_ble_eq_true rfl) dX2_become_80 (fun S7 eS7 => ?_)
  replace h := h S7 eS7
  refine m_aload_n dX2_become_83 1 rfl rfl ?_
  refine m_get 4 7 (o_4 e _) rfl inlX2 (by decide) q3_22 rfl dX2_become_84 ?_
  refine m_iconst (v := 0) dX2_become_87 (by decide) ?_
  refine m_aload_n dX2_become_88 0 rfl rfl ?_
  refine m_get 11 7 (o_11 e _) rfl inlX2 (by decide) q3_22 rfl dX2_become_89 ?_
  refine m_iconst (v := 0) dX2_become_92 (by decide) ?_
  refine m_bipush (v := 8) dX2_become_93 (by decide) ?_
  refine m_copy (S2 := setA S7 16 (S7.1 9)) 9 16 q15_3 q15_4 q15_5 q15_6 (a_9 e _) (a_16 e _) (by decide) (by decide) (by decide) (aw_16 e _ _) (by omega) (Nat.le_of_ble_eq_true rfl) dX2_become_95 (fun S8 eS8 => ?_)
  replace h := h S8 eS8
  refine m_aload_n dX2_become_98 1 rfl rfl ?_
  refine m_get 4 8 (o_4 e _) rfl inlX2 (by decide) q3_23 rfl dX2_become_99 ?_
  refine m_iconst (v := 0) dX2_become_102 (by decide) ?_
  refine m_aload_n dX2_become_103 0 rfl rfl ?_
  refine m_get 11 8 (o_11 e _) rfl inlX2 (by decide) q3_23 rfl dX2_become_104 ?_
  refine m_iconst (v := 0) dX2_become_107 (by decide) ?_
  refine m_bipush (v := 8) dX2_become_108 (by decide) ?_
  refine m_copy (S2 := setA S8 17 (S8.1 10)) 10 17 q15_3 q15_4 q15_5 q15_6 (a_10 e _) (a_17 e _) (by decide) (by decide) (by decide) (aw_17 e _ _) (by omega) (Nat.le_of_ble_eq_true rfl) dX2_become_110 (fun S9 eS9 => ?_)
  replace h := h S9 eS9
  exact m_vret hR ⟨rfl, h⟩ dX2_become_113
def w_X1_forget (S0 : St)  (Q : St → Prop) : Prop :=
  ∀ S1 : St, S1 = setI S0 1900 (0 : Int32) → (∀ S2 : St, S2 = setA S1 23 (fun _ => (-9 : Int32)) → Q S2)
set_option maxRecDepth 100000 in
set_option maxHeartbeats 4000000 in
theorem c_X1_forget {e : GE} {S0 : St}  {Q : St → Prop} (h : w_X1_forget S0  Q) : CT e yX1_forget cX1_forget 1 none 4 [.ref (e.2.2.1 18)] S0 (pV Q) := by
  refine CT.of (by decide) (Nat.le_of_ble_eq_true rfl) (fun Z hR => ?_)
  rw [w_X1_forget] at h
  show MW Z e cX1_forget 1 RX1 4 0 [(0, .ref (e.2.2.1 18))] [] S0
  refine m_aload_n dX1_forget_0 0 rfl rfl ?_
  refine m_iconst (v := 0) dX1_forget_1 (by decide) ?_
  refine m_put (S2 := setI S0 1900 (0 : Int32)) 18 0 tyX1 tyX1_ok nmX1 (o_18 e _) rfl inlX1 (by decide) q4_9 rfl (tyX1_ok 0 (by decide)) rfl rfl (Nat.le_of_ble_eq_true rfl) (p_18_0 e _ _) dX1_forget_2 (fun S1 eS1 => ?_)
  replace h := h S1 eS1
  refine m_aload_n dX1_forget_5 0 rfl rfl ?_
  refine m_get 18 5 (o_18 e _) rfl inlX1 (by decide) q4_14 rfl dX1_forget_6 ?_
  refine m_bipush (v := -9) dX1_forget_9 (by decide) ?_
  refine m_callS [.ref (e.2.2.1 23), .int (-9 : Int32)] c_fill_23 q4_15 q4_1 q4_2 q4_3 t_fill rfl (by omega) (by decide) (Nat.le_of_ble_eq_true rfl) rfl dX1_forget_11 (kV (P := MW Z e cX1_forget 1 RX1 4 14 [(0, .ref (e.2.2.1 18))]) (fun S2 eS2 => ?_))
  replace h := h S2 eS2
  exact m_vret hR ⟨rfl, h⟩ dX1_forget_14
def X6_square_L45 (f8 : Int32) (kx : St → Prop) : Nat → St → Int32 → Prop
  | 0 => fun _ _ => False
  | n + 1 => (fun (rec : St → Int32 → Prop) => fun (S6 : St) (v7 : Int32) => (((2 : Int32) ≤ v7 → kx S6) ∧ (¬ (2 : Int32) ≤ v7 → (vp_in v7 2 ∧ ∀ S9 : St, S9 = setA S6 37 (upd (S6.1 37) v7.toNatClampNeg (vp_nar .boolean (0 : Int32))) → ∀ x10 : Int32, x10 = v7 + (1 : Int32) → rec S9 x10)))) (X6_square_L45 f8 kx n)
def w_X6_square (S0 : St)  (Q : Int32 → St → Prop) : Prop :=
  (w_X3_read S0  (fun r1 S2 => ((0 ≤ r1 → (w_X2_become S2  (fun S3 => ∀ S4 : St, S4 = setI S3 301 (0 : Int32) → (w_X1_forget S4  (fun S5 => (∃ n : Nat, X6_square_L45 r1 (fun (S12 : St) => Q r1 S12) n S5 (0 : Int32))))))) ∧ (¬ 0 ≤ r1 → Q r1 S2))))
set_option maxRecDepth 100000 in
set_option maxHeartbeats 4000000 in
theorem l_X6_square_L45 {Z : Zt} {e : GE} {f8 : Int32} {kx : St → Prop} (hk : ∀ (S11 : St), kx S11 → MW Z e cX6_square 3 RX6 10 63 [(1, .int f8)] [] S11) : ∀ (n : Nat) (S6 : St) (v7 : Int32), X6_square_L45 f8 kx n S6 v7 → MW Z e cX6_square 3 RX6 10 45 [(0, .ref (e.2.2.1 0)), (1, .int f8), (2, .int v7)] [] S6 := by
  intro n
  induction n with
  | zero =>
    intro S6 v7 h
    exact h.elim
  | succ n ih =>
    intro S6 v7 h
    rw [X6_square_L45] at h
    refine m_iload_n dX6_square_45 2 rfl rfl ?_
    refine m_iconst (v := 2) dX6_square_46 (by decide) ?_
    refine m_icmp_ge (tgt := 63) dX6_square_47 (by decide) (fun z => ?_) (fun z => ?_)
    · replace h := h.1 z
      refine m_loc [1] rfl ?_
      exact hk S6 h
    · replace h := h.2 z
      refine m_aload_n dX6_square_50 0 rfl rfl ?_
      refine m_get 0 5 (o_0 e _) rfl inlX6 (by decide) q2_5 rfl dX6_square_51 ?_
      refine m_iload_n dX6_square_54 2 rfl rfl ?_
      refine m_iconst (v := 0) dX6_square_55 (by decide) ?_
      refine m_zast 37 (a_37 e _) (aw_37 e _) h.1 dX6_square_56 (fun S9 eS9 => ?_)
      replace h := h.2 S9 eS9
      obtain ⟨x10, ex10⟩ : ∃ y : Int32, y = v7 + (1 : Int32) := ⟨_, rfl⟩
      replace h := h x10 ex10
      refine m_iinc (v := x10) (lv2 := [(2, .int x10), (0, .ref (e.2.2.1 0)), (1, .int f8)]) dX6_square_57 2 rfl ex10.symm (by decide) rfl ?_
      refine m_goto (tgt := 45) dX6_square_60 (by decide) ?_
      refine m_loc [1, 2, 0] rfl ?_
      exact ih S9 x10 h
set_option maxRecDepth 100000 in
set_option maxHeartbeats 4000000 in
theorem c_X6_square {e : GE} {S0 : St}  {Q : Int32 → St → Prop} (h : w_X6_square S0  Q) : CT e yX6_square cX6_square 3 (some .int) 10 [.ref (e.2.2.1 0)] S0 (pI Q) := by
  refine CT.of (by decide) (Nat.le_of_ble_eq_true rfl) (fun Z hR => ?_)
  rw [w_X6_square] at h
  show MW Z e cX6_square 3 RX6 10 0 [(0, .ref (e.2.2.1 0))] [] S0
  refine m_aload_n dX6_square_0 0 rfl rfl ?_
  refine m_get 0 0 (o_0 e _) rfl inlX6 (by decide) q1_16 rfl dX6_square_1 ?_
  refine m_callV 1 [] (c_X3_read h) (o_1 e _) rfl rfl q9_20 q9_21 q9_22 q1_15 q9_23 t_X3_read rfl (by omega) (by decide) (Nat.le_of_ble_eq_true rfl) rfl dX6_square_4 (kI (P := MW Z e cX6_square 3 RX6 10 7 [(0, .ref (e.2.2.1 0))]) (fun r1 S2 h => ?_))
  refine m_istore_n (lv2 := [(1, .int r1), (0, .ref (e.2.2.1 0))]) dX6_square_7 rfl (by decide) rfl ?_
  refine m_iload_n dX6_square_8 0 rfl rfl ?_
  refine m_if_ge (tgt := 14) dX6_square_9 (by decide) (fun z => ?_) (fun z => ?_)
  · replace h := h.1 z
    refine m_aload_n dX6_square_14 1 rfl rfl ?_
    refine m_get 0 2 (o_0 e _) rfl inlX6 (by decide) q1_22 rfl dX6_square_15 ?_
    refine m_aload_n dX6_square_18 1 rfl rfl ?_
    refine m_get 0 0 (o_0 e _) rfl inlX6 (by decide) q1_16 rfl dX6_square_19 ?_
    refine m_get 1 1 (o_1 e _) rfl inlX3 (by decide) q9_19 rfl dX6_square_22 ?_
    refine m_callV 11 [.ref (e.2.2.1 4)] (c_X2_become h) (o_11 e _) rfl rfl q14_23 q15_0 q15_1 q1_21 q15_2 t_X2_become rfl (by omega) (by decide) (Nat.le_of_ble_eq_true rfl) rfl dX6_square_25 (kV (P := MW Z e cX6_square 3 RX6 10 28 [(1, .int r1), (0, .ref (e.2.2.1 0))]) (fun S3 h => ?_))
    refine m_aload_n dX6_square_28 1 rfl rfl ?_
    refine m_get 0 1 (o_0 e _) rfl inlX6 (by decide) q1_18 rfl dX6_square_29 ?_
    refine m_iconst (v := 0) dX6_square_32 (by decide) ?_
    refine m_put (S2 := setI S3 301 (0 : Int32)) 2 1 tyX4 tyX4_ok nmX4 (o_2 e _) rfl inlX4 (by decide) q8_18 rfl (tyX4_ok 1 (by decide)) rfl rfl (Nat.le_of_ble_eq_true rfl) (p_2_1 e _ _) dX6_square_33 (fun S4 eS4 => ?_)
    replace h := h S4 eS4
    refine m_aload_n dX6_square_36 1 rfl rfl ?_
    refine m_get 0 3 (o_0 e _) rfl inlX6 (by decide) q2_2 rfl dX6_square_37 ?_
    refine m_callV 18 [] (c_X1_forget h) (o_18 e _) rfl rfl q15_7 q15_8 q15_9 q2_1 q15_10 t_X1_forget rfl (by omega) (by decide) (Nat.le_of_ble_eq_true rfl) rfl dX6_square_40 (kV (P := MW Z e cX6_square 3 RX6 10 43 [(1, .int r1), (0, .ref (e.2.2.1 0))]) (fun S5 h => ?_))
    refine m_iconst (v := 0) dX6_square_43 (by decide) ?_
    refine m_istore_n (lv2 := [(2, .int (0 : Int32)), (1, .int r1), (0, .ref (e.2.2.1 0))]) dX6_square_44 rfl (by decide) rfl ?_
    obtain ⟨n, h⟩ := h
    refine m_loc [2, 1, 0] rfl ?_
    refine l_X6_square_L45 (fun S12 h => ?_) n S5 (0 : Int32) h
    refine m_iload_n dX6_square_63 0 rfl rfl ?_
    exact m_iret hR ⟨_, rfl, h⟩ dX6_square_64
  · replace h := h.2 z
    refine m_iload_n dX6_square_12 0 rfl rfl ?_
    exact m_iret hR ⟨_, rfl, h⟩ dX6_square_13
def w_X2_hasBar (S0 : St) (p1 : Int32) (Q : Int32 → Prop) : Prop :=
  (w_X6_within p1 (0 : Int32) ((S0.1 1200 0) - (1 : Int32))  (fun r1 => (zok r1 ∧ Q r1)))
set_option maxRecDepth 100000 in
set_option maxHeartbeats 4000000 in
theorem c_X2_hasBar {e : GE} {S0 : St} {p1 : Int32} {Q : Int32 → Prop} (h : w_X2_hasBar S0 p1 Q) : CT e yX2_hasBar cX2_hasBar 2 (some .boolean) 2 [.ref (e.2.2.1 11), .int p1] S0 (pR S0 Q) := by
  refine CT.of (by decide) (Nat.le_of_ble_eq_true rfl) (fun Z hR => ?_)
  rw [w_X2_hasBar] at h
  show MW Z e cX2_hasBar 2 RX2 2 0 [(0, .ref (e.2.2.1 11)), (1, .int p1)] [] S0
  refine m_iload_n dX2_hasBar_0 1 rfl rfl ?_
  refine m_iconst (v := 0) dX2_hasBar_1 (by decide) ?_
  refine m_aload_n dX2_hasBar_2 0 rfl rfl ?_
  refine m_get 11 0 (o_11 e _) rfl inlX2 (by decide) q3_14 rfl dX2_hasBar_3 ?_
  refine m_iconst (v := 1) dX2_hasBar_6 (by decide) ?_
  refine m_isub dX2_hasBar_7 ?_
  refine m_callSN [.int p1, .int (0 : Int32), .int ((S0.1 1200 0) - (1 : Int32))] (c_X6_within h) nk_2_52 q8_20 q1_2 q8_21 t_X6_within rfl (by omega) (by decide) (Nat.le_of_ble_eq_true rfl) rfl dX2_hasBar_8 (kR (P := MW Z e cX2_hasBar 2 RX2 2 11 [(0, .ref (e.2.2.1 11)), (1, .int p1)]) (fun r1 h => ?_))
  exact m_zret hR h.1 ⟨_, rfl, rfl, h.2⟩ dX2_hasBar_11
def w_X6_bar (S0 : St) (p1 : Int32) (Q : Int32 → Prop) : Prop :=
  (w_X2_hasBar S0 p1  (fun r1 => ((r1 = 0 → Q (-1 : Int32)) ∧ (¬ r1 = 0 → (vp_in p1 6 ∧ Q (S0.1 12 p1.toNatClampNeg))))))
set_option maxRecDepth 100000 in
set_option maxHeartbeats 4000000 in
theorem c_X6_bar {e : GE} {S0 : St} {p1 : Int32} {Q : Int32 → Prop} (h : w_X6_bar S0 p1 Q) : CT e yX6_bar cX6_bar 2 (some .int) 3 [.ref (e.2.2.1 0), .int p1] S0 (pR S0 Q) := by
  refine CT.of (by decide) (Nat.le_of_ble_eq_true rfl) (fun Z hR => ?_)
  rw [w_X6_bar] at h
  show MW Z e cX6_bar 2 RX6 3 0 [(0, .ref (e.2.2.1 0)), (1, .int p1)] [] S0
  refine m_aload_n dX6_bar_0 0 rfl rfl ?_
  refine m_get 0 2 (o_0 e _) rfl inlX6 (by decide) q1_22 rfl dX6_bar_1 ?_
  refine m_iload_n dX6_bar_4 1 rfl rfl ?_
  refine m_callV 11 [.int p1] (c_X2_hasBar h) (o_11 e _) rfl rfl q15_20 q15_21 q15_22 q1_21 q15_23 t_X2_hasBar rfl (by omega) (by decide) (Nat.le_of_ble_eq_true rfl) rfl dX6_bar_5 (kR (P := MW Z e cX6_bar 2 RX6 3 8 [(0, .ref (e.2.2.1 0)), (1, .int p1)]) (fun r1 h => ?_))
  refine m_if_eq (tgt := 23) dX6_bar_8 (by decide) (fun z => ?_) (fun z => ?_)
  · replace h := h.1 z
    refine m_iconst (v := -1) dX6_bar_23 (by decide) ?_
    exact m_iret hR ⟨_, rfl, rfl, h⟩ dX6_bar_24
  · replace h := h.2 z
    refine m_aload_n dX6_bar_11 0 rfl rfl ?_
    refine m_get 0 2 (o_0 e _) rfl inlX6 (by decide) q1_22 rfl dX6_bar_12 ?_
    refine m_get 11 3 (o_11 e _) rfl inlX2 (by decide) q15_19 rfl dX6_bar_15 ?_
    refine m_iload_n dX6_bar_18 1 rfl rfl ?_
    refine m_iald 12 (a_12 e _) h.1 dX6_bar_19 ?_
    replace h := h.2
    refine m_goto (tgt := 24) dX6_bar_20 (by decide) ?_
    exact m_iret hR ⟨_, rfl, rfl, h⟩ dX6_bar_24
def w_X2_hasPerson (S0 : St) (p1 : Int32) (Q : Int32 → Prop) : Prop :=
  (w_X6_within p1 (0 : Int32) ((S0.1 1201 0) - (1 : Int32))  (fun r1 => (zok r1 ∧ Q r1)))
set_option maxRecDepth 100000 in
set_option maxHeartbeats 4000000 in
theorem c_X2_hasPerson {e : GE} {S0 : St} {p1 : Int32} {Q : Int32 → Prop} (h : w_X2_hasPerson S0 p1 Q) : CT e yX2_hasPerson cX2_hasPerson 2 (some .boolean) 2 [.ref (e.2.2.1 11), .int p1] S0 (pR S0 Q) := by
  refine CT.of (by decide) (Nat.le_of_ble_eq_true rfl) (fun Z hR => ?_)
  rw [w_X2_hasPerson] at h
  show MW Z e cX2_hasPerson 2 RX2 2 0 [(0, .ref (e.2.2.1 11)), (1, .int p1)] [] S0
  refine m_iload_n dX2_hasPerson_0 1 rfl rfl ?_
  refine m_iconst (v := 0) dX2_hasPerson_1 (by decide) ?_
  refine m_aload_n dX2_hasPerson_2 0 rfl rfl ?_
  refine m_get 11 1 (o_11 e _) rfl inlX2 (by decide) q3_15 rfl dX2_hasPerson_3 ?_
  refine m_iconst (v := 1) dX2_hasPerson_6 (by decide) ?_
  refine m_isub dX2_hasPerson_7 ?_
  refine m_callSN [.int p1, .int (0 : Int32), .int ((S0.1 1201 0) - (1 : Int32))] (c_X6_within h) nk_2_52 q8_20 q1_2 q8_21 t_X6_within rfl (by omega) (by decide) (Nat.le_of_ble_eq_true rfl) rfl dX2_hasPerson_8 (kR (P := MW Z e cX2_hasPerson 2 RX2 2 11 [(0, .ref (e.2.2.1 11)), (1, .int p1)]) (fun r1 h => ?_))
  exact m_zret hR h.1 ⟨_, rfl, rfl, h.2⟩ dX2_hasPerson_11
def w_X6_person (S0 : St) (p1 : Int32) (Q : Int32 → Prop) : Prop :=
  (w_X2_hasPerson S0 p1  (fun r1 => ((r1 = 0 → Q (-1 : Int32)) ∧ (¬ r1 = 0 → (vp_in p1 3 ∧ Q (S0.1 13 p1.toNatClampNeg))))))
set_option maxRecDepth 100000 in
set_option maxHeartbeats 4000000 in
theorem c_X6_person {e : GE} {S0 : St} {p1 : Int32} {Q : Int32 → Prop} (h : w_X6_person S0 p1 Q) : CT e yX6_person cX6_person 2 (some .int) 3 [.ref (e.2.2.1 0), .int p1] S0 (pR S0 Q) := by
  refine CT.of (by decide) (Nat.le_of_ble_eq_true rfl) (fun Z hR => ?_)
  rw [w_X6_person] at h
  show MW Z e cX6_person 2 RX6 3 0 [(0, .ref (e.2.2.1 0)), (1, .int p1)] [] S0
  refine m_aload_n dX6_person_0 0 rfl rfl ?_
  refine m_get 0 2 (o_0 e _) rfl inlX6 (by decide) q1_22 rfl dX6_person_1 ?_
  refine m_iload_n dX6_person_4 1 rfl rfl ?_
  refine m_callV 11 [.int p1] (c_X2_hasPerson h) (o_11 e _) rfl rfl q16_13 q16_14 q16_15 q1_21 q16_16 t_X2_hasPerson rfl (by omega) (by decide) (Nat.le_of_ble_eq_true rfl) rfl dX6_person_5 (kR (P := MW Z e cX6_person 2 RX6 3 8 [(0, .ref (e.2.2.1 0)), (1, .int p1)]) (fun r1 h => ?_))
  refine m_if_eq (tgt := 23) dX6_person_8 (by decide) (fun z => ?_) (fun z => ?_)
  · replace h := h.1 z
    refine m_iconst (v := -1) dX6_person_23 (by decide) ?_
    exact m_iret hR ⟨_, rfl, rfl, h⟩ dX6_person_24
  · replace h := h.2 z
    refine m_aload_n dX6_person_11 0 rfl rfl ?_
    refine m_get 0 2 (o_0 e _) rfl inlX6 (by decide) q1_22 rfl dX6_person_12 ?_
    refine m_get 11 4 (o_11 e _) rfl inlX2 (by decide) q16_12 rfl dX6_person_15 ?_
    refine m_iload_n dX6_person_18 1 rfl rfl ?_
    refine m_iald 13 (a_13 e _) h.1 dX6_person_19 ?_
    replace h := h.2
    refine m_goto (tgt := 24) dX6_person_20 (by decide) ?_
    exact m_iret hR ⟨_, rfl, rfl, h⟩ dX6_person_24
def w_X6_isYear (p1 : Int32) (Q : Int32 → Prop) : Prop :=
  (w_X6_within p1 (0 : Int32) (9 : Int32)  (fun r1 => (zok r1 ∧ Q r1)))
set_option maxRecDepth 100000 in
set_option maxHeartbeats 4000000 in
theorem c_X6_isYear {e : GE} {S0 : St} {p1 : Int32} {Q : Int32 → Prop} (h : w_X6_isYear p1 Q) : CT e yX6_isYear cX6_isYear 1 (some .boolean) 2 [.int p1] S0 (pR S0 Q) := by
  refine CT.of (by decide) (Nat.le_of_ble_eq_true rfl) (fun Z hR => ?_)
  rw [w_X6_isYear] at h
  show MW Z e cX6_isYear 1 RX6 2 0 [(0, .int p1)] [] S0
  refine m_iload_n dX6_isYear_0 0 rfl rfl ?_
  refine m_iconst (v := 0) dX6_isYear_1 (by decide) ?_
  refine m_bipush (v := 9) dX6_isYear_2 (by decide) ?_
  refine m_callS [.int p1, .int (0 : Int32), .int (9 : Int32)] (c_X6_within h) q8_19 q8_20 q1_2 q8_21 t_X6_within rfl (by omega) (by decide) (Nat.le_of_ble_eq_true rfl) rfl dX6_isYear_4 (kR (P := MW Z e cX6_isYear 1 RX6 2 7 [(0, .int p1)]) (fun r1 h => ?_))
  exact m_zret hR h.1 ⟨_, rfl, rfl, h.2⟩ dX6_isYear_7
def w_X6_rain (S0 : St) (p1 : Int32) (Q : Int32 → Prop) : Prop :=
  (w_X6_isYear p1  (fun r1 => ((r1 = 0 → Q (-1 : Int32)) ∧ (¬ r1 = 0 → (vp_in p1 10 ∧ Q (S0.1 14 p1.toNatClampNeg))))))
set_option maxRecDepth 100000 in
set_option maxHeartbeats 4000000 in
theorem c_X6_rain {e : GE} {S0 : St} {p1 : Int32} {Q : Int32 → Prop} (h : w_X6_rain S0 p1 Q) : CT e yX6_rain cX6_rain 2 (some .int) 3 [.ref (e.2.2.1 0), .int p1] S0 (pR S0 Q) := by
  refine CT.of (by decide) (Nat.le_of_ble_eq_true rfl) (fun Z hR => ?_)
  rw [w_X6_rain] at h
  show MW Z e cX6_rain 2 RX6 3 0 [(0, .ref (e.2.2.1 0)), (1, .int p1)] [] S0
  refine m_iload_n dX6_rain_0 1 rfl rfl ?_
  refine m_callS [.int p1] (c_X6_isYear h) q17_6 q17_7 q1_2 q17_8 t_X6_isYear rfl (by omega) (by decide) (Nat.le_of_ble_eq_true rfl) rfl dX6_rain_1 (kR (P := MW Z e cX6_rain 2 RX6 3 4 [(0, .ref (e.2.2.1 0)), (1, .int p1)]) (fun r1 h => ?_))
  refine m_if_eq (tgt := 19) dX6_rain_4 (by decide) (fun z => ?_) (fun z => ?_)
  · replace h := h.1 z
    refine m_iconst (v := -1) dX6_rain_19 (by decide) ?_
    exact m_iret hR ⟨_, rfl, rfl, h⟩ dX6_rain_20
  · replace h := h.2 z
    refine m_aload_n dX6_rain_7 0 rfl rfl ?_
    refine m_get 0 2 (o_0 e _) rfl inlX6 (by decide) q1_22 rfl dX6_rain_8 ?_
    refine m_get 11 5 (o_11 e _) rfl inlX2 (by decide) q17_5 rfl dX6_rain_11 ?_
    refine m_iload_n dX6_rain_14 1 rfl rfl ?_
    refine m_iald 14 (a_14 e _) h.1 dX6_rain_15 ?_
    replace h := h.2
    refine m_goto (tgt := 20) dX6_rain_16 (by decide) ?_
    exact m_iret hR ⟨_, rfl, rfl, h⟩ dX6_rain_20
def X2_isWet_L2 (S4 : St) (f2 : Int32) (f3 : Int32) (Q : Int32 → Prop) (kx : Prop) : Nat → Int32 → Prop
  | 0 => fun _ => False
  | n + 1 => (fun (rec : Int32 → Prop) => fun (v1 : Int32) => (((S4.1 1202 0) ≤ v1 → kx) ∧ (¬ (S4.1 1202 0) ≤ v1 → (vp_in v1 8 ∧ ((¬ (S4.1 15 v1.toNatClampNeg) = f2 → ∀ x5 : Int32, x5 = v1 + (1 : Int32) → rec x5) ∧ ((S4.1 15 v1.toNatClampNeg) = f2 → (vp_in v1 8 ∧ ((¬ (S4.1 16 v1.toNatClampNeg) = f3 → ∀ x6 : Int32, x6 = v1 + (1 : Int32) → rec x6) ∧ ((S4.1 16 v1.toNatClampNeg) = f3 → Q (1 : Int32)))))))))) (X2_isWet_L2 S4 f2 f3 Q kx n)
def w_X2_isWet (S0 : St) (p1 : Int32) (p2 : Int32) (Q : Int32 → Prop) : Prop :=
  (∃ n : Nat, X2_isWet_L2 S0 p1 p2 Q (Q (0 : Int32)) n (0 : Int32))
set_option maxRecDepth 100000 in
set_option maxHeartbeats 4000000 in
theorem l_X2_isWet_L2 {Z : Zt} {e : GE} {S4 : St} {f2 : Int32} {f3 : Int32} {Q : Int32 → Prop} {kx : Prop} (hR : RT Z e (some .boolean) (pR S4 Q)) (hk : kx  → MW Z e cX2_isWet 4 RX2 1 38 [] [] S4) : ∀ (n : Nat) (v1 : Int32), X2_isWet_L2 S4 f2 f3 Q kx n v1 → MW Z e cX2_isWet 4 RX2 1 2 [(0, .ref (e.2.2.1 11)), (1, .int f2), (2, .int f3), (3, .int v1)] [] S4 := by
  intro n
  induction n with
  | zero =>
    intro v1 h
    exact h.elim
  | succ n ih =>
    intro v1 h
    rw [X2_isWet_L2] at h
    refine m_iload_n dX2_isWet_2 3 rfl rfl ?_
    refine m_aload_n dX2_isWet_3 0 rfl rfl ?_
    refine m_get 11 2 (o_11 e _) rfl inlX2 (by decide) q3_16 rfl dX2_isWet_4 ?_
    refine m_icmp_ge (tgt := 38) dX2_isWet_7 (by decide) (fun z => ?_) (fun z => ?_)
    · replace h := h.1 z
      refine m_loc [] rfl ?_
      exact hk  h
    · replace h := h.2 z
      refine m_aload_n dX2_isWet_10 0 rfl rfl ?_
      refine m_get 11 6 (o_11 e _) rfl inlX2 (by decide) q3_21 rfl dX2_isWet_11 ?_
      refine m_iload_n dX2_isWet_14 3 rfl rfl ?_
      refine m_iald 15 (a_15 e _) h.1 dX2_isWet_15 ?_
      replace h := h.2
      refine m_iload_n dX2_isWet_16 1 rfl rfl ?_
      refine m_icmp_ne (tgt := 32) dX2_isWet_17 (by decide) (fun z => ?_) (fun z => ?_)
      · replace h := h.1 z
        obtain ⟨x5, ex5⟩ : ∃ y : Int32, y = v1 + (1 : Int32) := ⟨_, rfl⟩
        replace h := h x5 ex5
        refine m_iinc (v := x5) (lv2 := [(3, .int x5), (0, .ref (e.2.2.1 11)), (1, .int f2), (2, .int f3)]) dX2_isWet_32 3 rfl ex5.symm (by decide) rfl ?_
        refine m_goto (tgt := 2) dX2_isWet_35 (by decide) ?_
        refine m_loc [1, 2, 3, 0] rfl ?_
        exact ih x5 h
      · replace h := h.2 z
        refine m_aload_n dX2_isWet_20 0 rfl rfl ?_
        refine m_get 11 7 (o_11 e _) rfl inlX2 (by decide) q3_22 rfl dX2_isWet_21 ?_
        refine m_iload_n dX2_isWet_24 3 rfl rfl ?_
        refine m_iald 16 (a_16 e _) h.1 dX2_isWet_25 ?_
        replace h := h.2
        refine m_iload_n dX2_isWet_26 2 rfl rfl ?_
        refine m_icmp_ne (tgt := 32) dX2_isWet_27 (by decide) (fun z => ?_) (fun z => ?_)
        · replace h := h.1 z
          obtain ⟨x6, ex6⟩ : ∃ y : Int32, y = v1 + (1 : Int32) := ⟨_, rfl⟩
          replace h := h x6 ex6
          refine m_iinc (v := x6) (lv2 := [(3, .int x6), (0, .ref (e.2.2.1 11)), (1, .int f2), (2, .int f3)]) dX2_isWet_32 3 rfl ex6.symm (by decide) rfl ?_
          refine m_goto (tgt := 2) dX2_isWet_35 (by decide) ?_
          refine m_loc [1, 2, 3, 0] rfl ?_
          exact ih x6 h
        · replace h := h.2 z
          refine m_iconst (v := 1) dX2_isWet_30 (by decide) ?_
          exact m_zret hR rfl ⟨_, rfl, rfl, h⟩ dX2_isWet_31
set_option maxRecDepth 100000 in
set_option maxHeartbeats 4000000 in
theorem c_X2_isWet {e : GE} {S0 : St} {p1 : Int32} {p2 : Int32} {Q : Int32 → Prop} (h : w_X2_isWet S0 p1 p2 Q) : CT e yX2_isWet cX2_isWet 4 (some .boolean) 1 [.ref (e.2.2.1 11), .int p1, .int p2] S0 (pR S0 Q) := by
  refine CT.of (by decide) (Nat.le_of_ble_eq_true rfl) (fun Z hR => ?_)
  rw [w_X2_isWet] at h
  show MW Z e cX2_isWet 4 RX2 1 0 [(0, .ref (e.2.2.1 11)), (1, .int p1), (2, .int p2)] [] S0
  refine m_iconst (v := 0) dX2_isWet_0 (by decide) ?_
  refine m_istore_n (lv2 := [(3, .int (0 : Int32)), (0, .ref (e.2.2.1 11)), (1, .int p1), (2, .int p2)]) dX2_isWet_1 rfl (by decide) rfl ?_
  obtain ⟨n, h⟩ := h
  refine m_loc [1, 2, 3, 0] rfl ?_
  refine l_X2_isWet_L2 hR (fun h => ?_) n (0 : Int32) h
  refine m_iconst (v := 0) dX2_isWet_38 (by decide) ?_
  exact m_zret hR rfl ⟨_, rfl, rfl, h⟩ dX2_isWet_39
def X2_isCovered_L2 (S4 : St) (f2 : Int32) (f3 : Int32) (Q : Int32 → Prop) (kx : Prop) : Nat → Int32 → Prop
  | 0 => fun _ => False
  | n + 1 => (fun (rec : Int32 → Prop) => fun (v1 : Int32) => (((S4.1 1202 0) ≤ v1 → kx) ∧ (¬ (S4.1 1202 0) ≤ v1 → (vp_in v1 8 ∧ (vp_in v1 8 ∧ ∀ x5 : Int32, x5 = ((S4.1 16 v1.toNatClampNeg) + (S4.1 17 v1.toNatClampNeg)) - (1 : Int32) → (vp_in v1 8 ∧ ((¬ (S4.1 15 v1.toNatClampNeg) = f2 → ∀ x6 : Int32, x6 = v1 + (1 : Int32) → rec x6) ∧ ((S4.1 15 v1.toNatClampNeg) = f2 → (vp_in v1 8 ∧ (w_X6_within f3 (S4.1 16 v1.toNatClampNeg) x5  (fun r7 => ((r7 = 0 → ∀ x8 : Int32, x8 = v1 + (1 : Int32) → rec x8) ∧ (¬ r7 = 0 → Q (1 : Int32)))))))))))))) (X2_isCovered_L2 S4 f2 f3 Q kx n)
def w_X2_isCovered (S0 : St) (p1 : Int32) (p2 : Int32) (Q : Int32 → Prop) : Prop :=
  (∃ n : Nat, X2_isCovered_L2 S0 p1 p2 Q (Q (0 : Int32)) n (0 : Int32))
set_option maxRecDepth 100000 in
set_option maxHeartbeats 4000000 in
theorem l_X2_isCovered_L2 {Z : Zt} {e : GE} {S4 : St} {f2 : Int32} {f3 : Int32} {Q : Int32 → Prop} {kx : Prop} (hR : RT Z e (some .boolean) (pR S4 Q)) (hk : kx  → MW Z e cX2_isCovered 5 RX2 2 60 [] [] S4) : ∀ (n : Nat) (v1 : Int32), X2_isCovered_L2 S4 f2 f3 Q kx n v1 → MW Z e cX2_isCovered 5 RX2 2 2 [(0, .ref (e.2.2.1 11)), (1, .int f2), (2, .int f3), (3, .int v1)] [] S4 := by
  intro n
  induction n with
  | zero =>
    intro v1 h
    exact h.elim
  | succ n ih =>
    intro v1 h
    rw [X2_isCovered_L2] at h
    refine m_iload_n dX2_isCovered_2 3 rfl rfl ?_
    refine m_aload_n dX2_isCovered_3 0 rfl rfl ?_
    refine m_get 11 2 (o_11 e _) rfl inlX2 (by decide) q3_16 rfl dX2_isCovered_4 ?_
    refine m_icmp_ge (tgt := 60) dX2_isCovered_7 (by decide) (fun z => ?_) (fun z => ?_)
    · replace h := h.1 z
      refine m_loc [] rfl ?_
      exact hk  h
    · replace h := h.2 z
      refine m_aload_n dX2_isCovered_10 0 rfl rfl ?_
      refine m_get 11 7 (o_11 e _) rfl inlX2 (by decide) q3_22 rfl dX2_isCovered_11 ?_
      refine m_iload_n dX2_isCovered_14 3 rfl rfl ?_
      refine m_iald 16 (a_16 e _) h.1 dX2_isCovered_15 ?_
      replace h := h.2
      refine m_aload_n dX2_isCovered_16 0 rfl rfl ?_
      refine m_get 11 8 (o_11 e _) rfl inlX2 (by decide) q3_23 rfl dX2_isCovered_17 ?_
      refine m_iload_n dX2_isCovered_20 3 rfl rfl ?_
      refine m_iald 17 (a_17 e _) h.1 dX2_isCovered_21 ?_
      replace h := h.2
      refine m_iadd dX2_isCovered_22 ?_
      refine m_iconst (v := 1) dX2_isCovered_23 (by decide) ?_
      refine m_isub dX2_isCovered_24 ?_
      refine m_topi (fun x5 ex5 => ?_)
      replace h := h x5 ex5
      refine m_istore (lv2 := [(4, .int x5), (0, .ref (e.2.2.1 11)), (1, .int f2), (2, .int f3), (3, .int v1)]) dX2_isCovered_25 (by decide) rfl ?_
      refine m_aload_n dX2_isCovered_27 1 rfl rfl ?_
      refine m_get 11 6 (o_11 e _) rfl inlX2 (by decide) q3_21 rfl dX2_isCovered_28 ?_
      refine m_iload_n dX2_isCovered_31 4 rfl rfl ?_
      refine m_iald 15 (a_15 e _) h.1 dX2_isCovered_32 ?_
      replace h := h.2
      refine m_iload_n dX2_isCovered_33 2 rfl rfl ?_
      refine m_icmp_ne (tgt := 54) dX2_isCovered_34 (by decide) (fun z => ?_) (fun z => ?_)
      · replace h := h.1 z
        obtain ⟨x6, ex6⟩ : ∃ y : Int32, y = v1 + (1 : Int32) := ⟨_, rfl⟩
        replace h := h x6 ex6
        refine m_iinc (v := x6) (lv2 := [(3, .int x6), (4, .int x5), (0, .ref (e.2.2.1 11)), (1, .int f2), (2, .int f3)]) dX2_isCovered_54 4 rfl ex6.symm (by decide) rfl ?_
        refine m_goto (tgt := 2) dX2_isCovered_57 (by decide) ?_
        refine m_loc [2, 3, 4, 0] rfl ?_
        exact ih x6 h
      · replace h := h.2 z
        refine m_iload_n dX2_isCovered_37 3 rfl rfl ?_
        refine m_aload_n dX2_isCovered_38 1 rfl rfl ?_
        refine m_get 11 7 (o_11 e _) rfl inlX2 (by decide) q3_22 rfl dX2_isCovered_39 ?_
        refine m_iload_n dX2_isCovered_42 4 rfl rfl ?_
        refine m_iald 16 (a_16 e _) h.1 dX2_isCovered_43 ?_
        replace h := h.2
        refine m_iload dX2_isCovered_44 0 rfl ?_
        refine m_callSN [.int f3, .int (S4.1 16 v1.toNatClampNeg), .int x5] (c_X6_within h) nk_2_52 q8_20 q1_2 q8_21 t_X6_within rfl (by omega) (by decide) (Nat.le_of_ble_eq_true rfl) rfl dX2_isCovered_46 (kR (P := MW Z e cX2_isCovered 5 RX2 2 49 [(4, .int x5), (0, .ref (e.2.2.1 11)), (1, .int f2), (2, .int f3), (3, .int v1)]) (fun r7 h => ?_))
        refine m_if_eq (tgt := 54) dX2_isCovered_49 (by decide) (fun z => ?_) (fun z => ?_)
        · replace h := h.1 z
          obtain ⟨x8, ex8⟩ : ∃ y : Int32, y = v1 + (1 : Int32) := ⟨_, rfl⟩
          replace h := h x8 ex8
          refine m_iinc (v := x8) (lv2 := [(3, .int x8), (4, .int x5), (0, .ref (e.2.2.1 11)), (1, .int f2), (2, .int f3)]) dX2_isCovered_54 4 rfl ex8.symm (by decide) rfl ?_
          refine m_goto (tgt := 2) dX2_isCovered_57 (by decide) ?_
          refine m_loc [2, 3, 4, 0] rfl ?_
          exact ih x8 h
        · replace h := h.2 z
          refine m_iconst (v := 1) dX2_isCovered_52 (by decide) ?_
          exact m_zret hR rfl ⟨_, rfl, rfl, h⟩ dX2_isCovered_53
set_option maxRecDepth 100000 in
set_option maxHeartbeats 4000000 in
theorem c_X2_isCovered {e : GE} {S0 : St} {p1 : Int32} {p2 : Int32} {Q : Int32 → Prop} (h : w_X2_isCovered S0 p1 p2 Q) : CT e yX2_isCovered cX2_isCovered 5 (some .boolean) 2 [.ref (e.2.2.1 11), .int p1, .int p2] S0 (pR S0 Q) := by
  refine CT.of (by decide) (Nat.le_of_ble_eq_true rfl) (fun Z hR => ?_)
  rw [w_X2_isCovered] at h
  show MW Z e cX2_isCovered 5 RX2 2 0 [(0, .ref (e.2.2.1 11)), (1, .int p1), (2, .int p2)] [] S0
  refine m_iconst (v := 0) dX2_isCovered_0 (by decide) ?_
  refine m_istore_n (lv2 := [(3, .int (0 : Int32)), (0, .ref (e.2.2.1 11)), (1, .int p1), (2, .int p2)]) dX2_isCovered_1 rfl (by decide) rfl ?_
  obtain ⟨n, h⟩ := h
  refine m_loc [1, 2, 3, 0] rfl ?_
  refine l_X2_isCovered_L2 hR (fun h => ?_) n (0 : Int32) h
  refine m_iconst (v := 0) dX2_isCovered_60 (by decide) ?_
  exact m_zret hR rfl ⟨_, rfl, rfl, h⟩ dX2_isCovered_61
def w_X6_paint (S0 : St) (p1 : Int32) (p2 : Int32) (Q : Int32 → Prop) : Prop :=
  (w_X2_hasBar S0 p1  (fun r1 => ((r1 = 0 → Q (-1 : Int32)) ∧ (¬ r1 = 0 → (w_X6_isYear p2  (fun r2 => ((¬ r2 = 0 → (w_X2_isWet S0 p1 p2  (fun r3 => ((r3 = 0 → (w_X2_isCovered S0 p1 p2  (fun r4 => ((r4 = 0 → Q (0 : Int32)) ∧ (¬ r4 = 0 → Q (1 : Int32)))))) ∧ (¬ r3 = 0 → Q (2 : Int32)))))) ∧ (r2 = 0 → Q (-1 : Int32)))))))))
set_option maxRecDepth 100000 in
set_option maxHeartbeats 4000000 in
theorem c_X6_paint {e : GE} {S0 : St} {p1 : Int32} {p2 : Int32} {Q : Int32 → Prop} (h : w_X6_paint S0 p1 p2 Q) : CT e yX6_paint cX6_paint 3 (some .int) 3 [.ref (e.2.2.1 0), .int p1, .int p2] S0 (pR S0 Q) := by
  refine CT.of (by decide) (Nat.le_of_ble_eq_true rfl) (fun Z hR => ?_)
  rw [w_X6_paint] at h
  show MW Z e cX6_paint 3 RX6 3 0 [(0, .ref (e.2.2.1 0)), (1, .int p1), (2, .int p2)] [] S0
  refine m_aload_n dX6_paint_0 0 rfl rfl ?_
  refine m_get 0 2 (o_0 e _) rfl inlX6 (by decide) q1_22 rfl dX6_paint_1 ?_
  refine m_iload_n dX6_paint_4 1 rfl rfl ?_
  refine m_callV 11 [.int p1] (c_X2_hasBar h) (o_11 e _) rfl rfl q15_20 q15_21 q15_22 q1_21 q15_23 t_X2_hasBar rfl (by omega) (by decide) (Nat.le_of_ble_eq_true rfl) rfl dX6_paint_5 (kR (P := MW Z e cX6_paint 3 RX6 3 8 [(0, .ref (e.2.2.1 0)), (1, .int p1), (2, .int p2)]) (fun r1 h => ?_))
  refine m_if_eq (tgt := 18) dX6_paint_8 (by decide) (fun z => ?_) (fun z => ?_)
  · replace h := h.1 z
    refine m_iconst (v := -1) dX6_paint_18 (by decide) ?_
    exact m_iret hR ⟨_, rfl, rfl, h⟩ dX6_paint_19
  · replace h := h.2 z
    refine m_iload_n dX6_paint_11 2 rfl rfl ?_
    refine m_callS [.int p2] (c_X6_isYear h) q17_6 q17_7 q1_2 q17_8 t_X6_isYear rfl (by omega) (by decide) (Nat.le_of_ble_eq_true rfl) rfl dX6_paint_12 (kR (P := MW Z e cX6_paint 3 RX6 3 15 [(0, .ref (e.2.2.1 0)), (1, .int p1), (2, .int p2)]) (fun r2 h => ?_))
    refine m_if_ne (tgt := 20) dX6_paint_15 (by decide) (fun z => ?_) (fun z => ?_)
    · replace h := h.1 z
      refine m_aload_n dX6_paint_20 0 rfl rfl ?_
      refine m_get 0 2 (o_0 e _) rfl inlX6 (by decide) q1_22 rfl dX6_paint_21 ?_
      refine m_iload_n dX6_paint_24 1 rfl rfl ?_
      refine m_iload_n dX6_paint_25 2 rfl rfl ?_
      refine m_callV 11 [.int p1, .int p2] (c_X2_isWet h) (o_11 e _) rfl rfl q17_17 q17_18 q17_19 q1_21 q17_20 t_X2_isWet rfl (by omega) (by decide) (Nat.le_of_ble_eq_true rfl) rfl dX6_paint_26 (kR (P := MW Z e cX6_paint 3 RX6 3 29 [(0, .ref (e.2.2.1 0)), (1, .int p1), (2, .int p2)]) (fun r3 h => ?_))
      refine m_if_eq (tgt := 34) dX6_paint_29 (by decide) (fun z => ?_) (fun z => ?_)
      · replace h := h.1 z
        refine m_aload_n dX6_paint_34 0 rfl rfl ?_
        refine m_get 0 2 (o_0 e _) rfl inlX6 (by decide) q1_22 rfl dX6_paint_35 ?_
        refine m_iload_n dX6_paint_38 1 rfl rfl ?_
        refine m_iload_n dX6_paint_39 2 rfl rfl ?_
        refine m_callV 11 [.int p1, .int p2] (c_X2_isCovered h) (o_11 e _) rfl rfl q17_21 q17_22 q17_23 q1_21 q18_0 t_X2_isCovered rfl (by omega) (by decide) (Nat.le_of_ble_eq_true rfl) rfl dX6_paint_40 (kR (P := MW Z e cX6_paint 3 RX6 3 43 [(0, .ref (e.2.2.1 0)), (1, .int p1), (2, .int p2)]) (fun r4 h => ?_))
        refine m_if_eq (tgt := 50) dX6_paint_43 (by decide) (fun z => ?_) (fun z => ?_)
        · replace h := h.1 z
          refine m_iconst (v := 0) dX6_paint_50 (by decide) ?_
          exact m_iret hR ⟨_, rfl, rfl, h⟩ dX6_paint_51
        · replace h := h.2 z
          refine m_iconst (v := 1) dX6_paint_46 (by decide) ?_
          refine m_goto (tgt := 51) dX6_paint_47 (by decide) ?_
          exact m_iret hR ⟨_, rfl, rfl, h⟩ dX6_paint_51
      · replace h := h.2 z
        refine m_iconst (v := 2) dX6_paint_32 (by decide) ?_
        exact m_iret hR ⟨_, rfl, rfl, h⟩ dX6_paint_33
    · replace h := h.2 z
      refine m_iconst (v := -1) dX6_paint_18 (by decide) ?_
      exact m_iret hR ⟨_, rfl, rfl, h⟩ dX6_paint_19
def w_X1_add (S0 : St) (p1 : Int32) (p2 : Int32) (p3 : Int32) (p4 : Int32) (Q : St → Prop) : Prop :=
  (vp_in (S0.1 1900 0) 12 ∧ ∀ S1 : St, S1 = setA S0 19 (upd (S0.1 19) (S0.1 1900 0).toNatClampNeg p1) → (vp_in (S1.1 1900 0) 12 ∧ ∀ S2 : St, S2 = setA S1 20 (upd (S1.1 20) (S1.1 1900 0).toNatClampNeg p2) → (vp_in (S2.1 1900 0) 12 ∧ ∀ S3 : St, S3 = setA S2 21 (upd (S2.1 21) (S2.1 1900 0).toNatClampNeg p3) → (vp_in (S3.1 1900 0) 12 ∧ ∀ S4 : St, S4 = setA S3 22 (upd (S3.1 22) (S3.1 1900 0).toNatClampNeg p4) → ∀ S5 : St, S5 = setI S4 1900 ((S4.1 1900 0) + (1 : Int32)) → Q S5))))
set_option maxRecDepth 100000 in
set_option maxHeartbeats 4000000 in
theorem c_X1_add {e : GE} {S0 : St} {p1 : Int32} {p2 : Int32} {p3 : Int32} {p4 : Int32} {Q : St → Prop} (h : w_X1_add S0 p1 p2 p3 p4 Q) : CT e yX1_add cX1_add 5 none 1 [.ref (e.2.2.1 18), .int p1, .int p2, .int p3, .int p4] S0 (pV Q) := by
  refine CT.of (by decide) (Nat.le_of_ble_eq_true rfl) (fun Z hR => ?_)
  rw [w_X1_add] at h
  show MW Z e cX1_add 5 RX1 1 0 [(0, .ref (e.2.2.1 18)), (1, .int p1), (2, .int p2), (3, .int p3), (4, .int p4)] [] S0
  refine m_aload_n dX1_add_0 0 rfl rfl ?_
  refine m_get 18 1 (o_18 e _) rfl inlX1 (by decide) q4_10 rfl dX1_add_1 ?_
  refine m_aload_n dX1_add_4 0 rfl rfl ?_
  refine m_get 18 0 (o_18 e _) rfl inlX1 (by decide) q4_9 rfl dX1_add_5 ?_
  refine m_iload_n dX1_add_8 1 rfl rfl ?_
  refine m_iast 19 (a_19 e _) (aw_19 e _) h.1 dX1_add_9 (fun S1 eS1 => ?_)
  replace h := h.2 S1 eS1
  refine m_aload_n dX1_add_10 0 rfl rfl ?_
  refine m_get 18 2 (o_18 e _) rfl inlX1 (by decide) q4_11 rfl dX1_add_11 ?_
  refine m_aload_n dX1_add_14 0 rfl rfl ?_
  refine m_get 18 0 (o_18 e _) rfl inlX1 (by decide) q4_9 rfl dX1_add_15 ?_
  refine m_iload_n dX1_add_18 2 rfl rfl ?_
  refine m_iast 20 (a_20 e _) (aw_20 e _) h.1 dX1_add_19 (fun S2 eS2 => ?_)
  replace h := h.2 S2 eS2
  refine m_aload_n dX1_add_20 0 rfl rfl ?_
  refine m_get 18 3 (o_18 e _) rfl inlX1 (by decide) q4_12 rfl dX1_add_21 ?_
  refine m_aload_n dX1_add_24 0 rfl rfl ?_
  refine m_get 18 0 (o_18 e _) rfl inlX1 (by decide) q4_9 rfl dX1_add_25 ?_
  refine m_iload_n dX1_add_28 3 rfl rfl ?_
  refine m_iast 21 (a_21 e _) (aw_21 e _) h.1 dX1_add_29 (fun S3 eS3 => ?_)
  replace h := h.2 S3 eS3
  refine m_aload_n dX1_add_30 0 rfl rfl ?_
  refine m_get 18 4 (o_18 e _) rfl inlX1 (by decide) q4_13 rfl dX1_add_31 ?_
  refine m_aload_n dX1_add_34 0 rfl rfl ?_
  refine m_get 18 0 (o_18 e _) rfl inlX1 (by decide) q4_9 rfl dX1_add_35 ?_
  refine m_iload dX1_add_38 4 rfl ?_
  refine m_iast 22 (a_22 e _) (aw_22 e _) h.1 dX1_add_40 (fun S4 eS4 => ?_)
  replace h := h.2 S4 eS4
  refine m_aload_n dX1_add_41 0 rfl rfl ?_
  refine m_dup dX1_add_42 rfl ?_
  refine m_get 18 0 (o_18 e _) rfl inlX1 (by decide) q4_9 rfl dX1_add_43 ?_
  refine m_iconst (v := 1) dX1_add_46 (by decide) ?_
  refine m_iadd dX1_add_47 ?_
  refine m_put (S2 := setI S4 1900 ((S4.1 1900 0) + (1 : Int32))) 18 0 tyX1 tyX1_ok nmX1 (o_18 e _) rfl inlX1 (by decide) q4_9 rfl (tyX1_ok 0 (by decide)) rfl rfl (Nat.le_of_ble_eq_true rfl) (p_18_0 e _ _) dX1_add_48 (fun S5 eS5 => ?_)
  replace h := h S5 eS5
  exact m_vret hR ⟨rfl, h⟩ dX1_add_51
def w_X6_holds (S0 : St) (p1 : Int32) (p2 : Int32) (p3 : Int32) (p4 : Int32) (Q : Int32 → St → Prop) : Prop :=
  (w_X2_hasPerson S0 p1  (fun r1 => ((r1 = 0 → Q (-1 : Int32) S0) ∧ (¬ r1 = 0 → (w_X2_hasBar S0 p2  (fun r2 => ((¬ r2 = 0 → (w_X6_isYear p3  (fun r3 => ((r3 = 0 → Q (-1 : Int32) S0) ∧ (¬ r3 = 0 → (w_X6_within p4 (1 : Int32) ((10 : Int32) - p3)  (fun r4 => ((¬ r4 = 0 → (((S0.1 1900 0) < (12 : Int32) → (w_X1_add S0 p1 p2 p3 p4  (fun S5 => Q (S5.1 1900 0) S5))) ∧ (¬ (S0.1 1900 0) < (12 : Int32) → Q (-3 : Int32) S0))) ∧ (r4 = 0 → Q (-1 : Int32) S0))))))))) ∧ (r2 = 0 → Q (-1 : Int32) S0))))))))
set_option maxRecDepth 100000 in
set_option maxHeartbeats 4000000 in
theorem c_X6_holds {e : GE} {S0 : St} {p1 : Int32} {p2 : Int32} {p3 : Int32} {p4 : Int32} {Q : Int32 → St → Prop} (h : w_X6_holds S0 p1 p2 p3 p4 Q) : CT e yX6_holds cX6_holds 5 (some .int) 3 [.ref (e.2.2.1 0), .int p1, .int p2, .int p3, .int p4] S0 (pI Q) := by
  refine CT.of (by decide) (Nat.le_of_ble_eq_true rfl) (fun Z hR => ?_)
  rw [w_X6_holds] at h
  show MW Z e cX6_holds 5 RX6 3 0 [(0, .ref (e.2.2.1 0)), (1, .int p1), (2, .int p2), (3, .int p3), (4, .int p4)] [] S0
  refine m_aload_n dX6_holds_0 0 rfl rfl ?_
  refine m_get 0 2 (o_0 e _) rfl inlX6 (by decide) q1_22 rfl dX6_holds_1 ?_
  refine m_iload_n dX6_holds_4 1 rfl rfl ?_
  refine m_callV 11 [.int p1] (c_X2_hasPerson h) (o_11 e _) rfl rfl q16_13 q16_14 q16_15 q1_21 q16_16 t_X2_hasPerson rfl (by omega) (by decide) (Nat.le_of_ble_eq_true rfl) rfl dX6_holds_5 (kR (P := MW Z e cX6_holds 5 RX6 3 8 [(0, .ref (e.2.2.1 0)), (1, .int p1), (2, .int p2), (3, .int p3), (4, .int p4)]) (fun r1 h => ?_))
  refine m_if_eq (tgt := 22) dX6_holds_8 (by decide) (fun z => ?_) (fun z => ?_)
  · replace h := h.1 z
    refine m_iconst (v := -1) dX6_holds_22 (by decide) ?_
    exact m_iret hR ⟨_, rfl, h⟩ dX6_holds_23
  · replace h := h.2 z
    refine m_aload_n dX6_holds_11 0 rfl rfl ?_
    refine m_get 0 2 (o_0 e _) rfl inlX6 (by decide) q1_22 rfl dX6_holds_12 ?_
    refine m_iload_n dX6_holds_15 2 rfl rfl ?_
    refine m_callV 11 [.int p2] (c_X2_hasBar h) (o_11 e _) rfl rfl q15_20 q15_21 q15_22 q1_21 q15_23 t_X2_hasBar rfl (by omega) (by decide) (Nat.le_of_ble_eq_true rfl) rfl dX6_holds_16 (kR (P := MW Z e cX6_holds 5 RX6 3 19 [(0, .ref (e.2.2.1 0)), (1, .int p1), (2, .int p2), (3, .int p3), (4, .int p4)]) (fun r2 h => ?_))
    refine m_if_ne (tgt := 24) dX6_holds_19 (by decide) (fun z => ?_) (fun z => ?_)
    · replace h := h.1 z
      refine m_iload_n dX6_holds_24 3 rfl rfl ?_
      refine m_callS [.int p3] (c_X6_isYear h) q17_6 q17_7 q1_2 q17_8 t_X6_isYear rfl (by omega) (by decide) (Nat.le_of_ble_eq_true rfl) rfl dX6_holds_25 (kR (P := MW Z e cX6_holds 5 RX6 3 28 [(0, .ref (e.2.2.1 0)), (1, .int p1), (2, .int p2), (3, .int p3), (4, .int p4)]) (fun r3 h => ?_))
      refine m_if_eq (tgt := 44) dX6_holds_28 (by decide) (fun z => ?_) (fun z => ?_)
      · replace h := h.1 z
        refine m_iconst (v := -1) dX6_holds_44 (by decide) ?_
        exact m_iret hR ⟨_, rfl, h⟩ dX6_holds_45
      · replace h := h.2 z
        refine m_iload dX6_holds_31 4 rfl ?_
        refine m_iconst (v := 1) dX6_holds_33 (by decide) ?_
        refine m_bipush (v := 10) dX6_holds_34 (by decide) ?_
        refine m_iload_n dX6_holds_36 3 rfl rfl ?_
        refine m_isub dX6_holds_37 ?_
        refine m_callS [.int p4, .int (1 : Int32), .int ((10 : Int32) - p3)] (c_X6_within h) q8_19 q8_20 q1_2 q8_21 t_X6_within rfl (by omega) (by decide) (Nat.le_of_ble_eq_true rfl) rfl dX6_holds_38 (kR (P := MW Z e cX6_holds 5 RX6 3 41 [(0, .ref (e.2.2.1 0)), (1, .int p1), (2, .int p2), (3, .int p3), (4, .int p4)]) (fun r4 h => ?_))
        refine m_if_ne (tgt := 46) dX6_holds_41 (by decide) (fun z => ?_) (fun z => ?_)
        · replace h := h.1 z
          refine m_aload_n dX6_holds_46 0 rfl rfl ?_
          refine m_get 0 3 (o_0 e _) rfl inlX6 (by decide) q2_2 rfl dX6_holds_47 ?_
          refine m_get 18 0 (o_18 e _) rfl inlX1 (by decide) q18_13 rfl dX6_holds_50 ?_
          refine m_bipush (v := 12) dX6_holds_53 (by decide) ?_
          refine m_icmp_lt (tgt := 61) dX6_holds_55 (by decide) (fun z => ?_) (fun z => ?_)
          · replace h := h.1 z
            refine m_aload_n dX6_holds_61 0 rfl rfl ?_
            refine m_get 0 3 (o_0 e _) rfl inlX6 (by decide) q2_2 rfl dX6_holds_62 ?_
            refine m_iload_n dX6_holds_65 1 rfl rfl ?_
            refine m_iload_n dX6_holds_66 2 rfl rfl ?_
            refine m_iload_n dX6_holds_67 3 rfl rfl ?_
            refine m_iload dX6_holds_68 4 rfl ?_
            refine m_callV 18 [.int p1, .int p2, .int p3, .int p4] (c_X1_add h) (o_18 e _) rfl rfl q18_14 q18_15 q18_16 q2_1 q18_17 t_X1_add rfl (by omega) (by decide) (Nat.le_of_ble_eq_true rfl) rfl dX6_holds_70 (kV (P := MW Z e cX6_holds 5 RX6 3 73 [(0, .ref (e.2.2.1 0)), (1, .int p1), (2, .int p2), (3, .int p3), (4, .int p4)]) (fun S5 h => ?_))
            refine m_aload_n dX6_holds_73 0 rfl rfl ?_
            refine m_get 0 3 (o_0 e _) rfl inlX6 (by decide) q2_2 rfl dX6_holds_74 ?_
            refine m_get 18 0 (o_18 e _) rfl inlX1 (by decide) q18_13 rfl dX6_holds_77 ?_
            exact m_iret hR ⟨_, rfl, h⟩ dX6_holds_80
          · replace h := h.2 z
            refine m_bipush (v := -3) dX6_holds_58 (by decide) ?_
            exact m_iret hR ⟨_, rfl, h⟩ dX6_holds_60
        · replace h := h.2 z
          refine m_iconst (v := -1) dX6_holds_44 (by decide) ?_
          exact m_iret hR ⟨_, rfl, h⟩ dX6_holds_45
    · replace h := h.2 z
      refine m_iconst (v := -1) dX6_holds_22 (by decide) ?_
      exact m_iret hR ⟨_, rfl, h⟩ dX6_holds_23
def w_X6_undo (S0 : St)  (Q : Int32 → St → Prop) : Prop :=
  ((0 < (S0.1 1900 0) → ∀ S1 : St, S1 = setI S0 1900 ((S0.1 1900 0) - (1 : Int32)) → Q (S1.1 1900 0) S1) ∧ (¬ 0 < (S0.1 1900 0) → Q (-2 : Int32) S0))
set_option maxRecDepth 100000 in
set_option maxHeartbeats 4000000 in
theorem c_X6_undo {e : GE} {S0 : St}  {Q : Int32 → St → Prop} (h : w_X6_undo S0  Q) : CT e yX6_undo cX6_undo 1 (some .int) 1 [.ref (e.2.2.1 0)] S0 (pI Q) := by
  refine CT.of (by decide) (Nat.le_of_ble_eq_true rfl) (fun Z hR => ?_)
  rw [w_X6_undo] at h
  show MW Z e cX6_undo 1 RX6 1 0 [(0, .ref (e.2.2.1 0))] [] S0
  refine m_aload_n dX6_undo_0 0 rfl rfl ?_
  refine m_get 0 3 (o_0 e _) rfl inlX6 (by decide) q2_2 rfl dX6_undo_1 ?_
  refine m_get 18 0 (o_18 e _) rfl inlX1 (by decide) q18_13 rfl dX6_undo_4 ?_
  refine m_if_gt (tgt := 13) dX6_undo_7 (by decide) (fun z => ?_) (fun z => ?_)
  · replace h := h.1 z
    refine m_aload_n dX6_undo_13 0 rfl rfl ?_
    refine m_get 0 3 (o_0 e _) rfl inlX6 (by decide) q2_2 rfl dX6_undo_14 ?_
    refine m_dup dX6_undo_17 rfl ?_
    refine m_get 18 0 (o_18 e _) rfl inlX1 (by decide) q18_13 rfl dX6_undo_18 ?_
    refine m_iconst (v := 1) dX6_undo_21 (by decide) ?_
    refine m_isub dX6_undo_22 ?_
    refine m_put (S2 := setI S0 1900 ((S0.1 1900 0) - (1 : Int32))) 18 0 tyX1 tyX1_ok nmX1 (o_18 e _) rfl inlX1 (by decide) q18_13 rfl (tyX1_ok 0 (by decide)) rfl rfl (Nat.le_of_ble_eq_true rfl) (p_18_0 e _ _) dX6_undo_23 (fun S1 eS1 => ?_)
    replace h := h S1 eS1
    refine m_aload_n dX6_undo_26 0 rfl rfl ?_
    refine m_get 0 3 (o_0 e _) rfl inlX6 (by decide) q2_2 rfl dX6_undo_27 ?_
    refine m_get 18 0 (o_18 e _) rfl inlX1 (by decide) q18_13 rfl dX6_undo_30 ?_
    exact m_iret hR ⟨_, rfl, h⟩ dX6_undo_33
  · replace h := h.2 z
    refine m_bipush (v := -2) dX6_undo_10 (by decide) ?_
    exact m_iret hR ⟨_, rfl, h⟩ dX6_undo_12
def w_X6_held (S0 : St) (p1 : Int32) (p2 : Int32) (Q : Int32 → Prop) : Prop :=
  (w_X6_within p1 (0 : Int32) ((S0.1 1900 0) - (1 : Int32))  (fun r1 => ((¬ r1 = 0 → (((p2.toInt < 0 ∨ 3 < p2.toInt) → Q (-1 : Int32)) ∧ (p2 = nI 0 → (vp_in p1 12 ∧ Q (S0.1 19 p1.toNatClampNeg))) ∧ (p2 = nI 1 → (vp_in p1 12 ∧ Q (S0.1 20 p1.toNatClampNeg))) ∧ (p2 = nI 2 → (vp_in p1 12 ∧ Q (S0.1 21 p1.toNatClampNeg))) ∧ (p2 = nI 3 → (vp_in p1 12 ∧ Q (S0.1 22 p1.toNatClampNeg))))) ∧ (r1 = 0 → Q (-1 : Int32)))))
set_option maxRecDepth 100000 in
set_option maxHeartbeats 4000000 in
theorem c_X6_held {e : GE} {S0 : St} {p1 : Int32} {p2 : Int32} {Q : Int32 → Prop} (h : w_X6_held S0 p1 p2 Q) : CT e yX6_held cX6_held 3 (some .int) 2 [.ref (e.2.2.1 0), .int p1, .int p2] S0 (pR S0 Q) := by
  refine CT.of (by decide) (Nat.le_of_ble_eq_true rfl) (fun Z hR => ?_)
  rw [w_X6_held] at h
  show MW Z e cX6_held 3 RX6 2 0 [(0, .ref (e.2.2.1 0)), (1, .int p1), (2, .int p2)] [] S0
  refine m_iload_n dX6_held_0 1 rfl rfl ?_
  refine m_iconst (v := 0) dX6_held_1 (by decide) ?_
  refine m_aload_n dX6_held_2 0 rfl rfl ?_
  refine m_get 0 3 (o_0 e _) rfl inlX6 (by decide) q2_2 rfl dX6_held_3 ?_
  refine m_get 18 0 (o_18 e _) rfl inlX1 (by decide) q18_13 rfl dX6_held_6 ?_
  refine m_iconst (v := 1) dX6_held_9 (by decide) ?_
  refine m_isub dX6_held_10 ?_
  refine m_callS [.int p1, .int (0 : Int32), .int ((S0.1 1900 0) - (1 : Int32))] (c_X6_within h) q8_19 q8_20 q1_2 q8_21 t_X6_within rfl (by omega) (by decide) (Nat.le_of_ble_eq_true rfl) rfl dX6_held_11 (kR (P := MW Z e cX6_held 3 RX6 2 14 [(0, .ref (e.2.2.1 0)), (1, .int p1), (2, .int p2)]) (fun r1 h => ?_))
  refine m_if_ne (tgt := 19) dX6_held_14 (by decide) (fun z => ?_) (fun z => ?_)
  · replace h := h.1 z
    refine m_iload_n dX6_held_19 2 rfl rfl ?_
    rcases sw_cases p2 3 with hx | ⟨k, hk9, hx⟩
    · refine m_tableOut (tgt := 92) dX6_held_20 hx (by decide) ?_
      replace h := h.1 hx
      refine m_iconst (v := -1) dX6_held_92 (by decide) ?_
      exact m_iret hR ⟨_, rfl, rfl, h⟩ dX6_held_93
    · rcases (show k = 0 ∨ k = 1 ∨ k = 2 ∨ k = 3 by omega) with rfl | rfl | rfl | rfl
      · refine m_sw (tgt := 52) 0 hx dX6_held_20 (by decide) (by decide) rfl (by decide) ?_
        replace h := h.2.1 hx
        refine m_aload_n dX6_held_52 0 rfl rfl ?_
        refine m_get 0 3 (o_0 e _) rfl inlX6 (by decide) q2_2 rfl dX6_held_53 ?_
        refine m_get 18 1 (o_18 e _) rfl inlX1 (by decide) q19_10 rfl dX6_held_56 ?_
        refine m_iload_n dX6_held_59 1 rfl rfl ?_
        refine m_iald 19 (a_19 e _) h.1 dX6_held_60 ?_
        replace h := h.2
        exact m_iret hR ⟨_, rfl, rfl, h⟩ dX6_held_61
      · refine m_sw (tgt := 62) 1 hx dX6_held_20 (by decide) (by decide) rfl (by decide) ?_
        replace h := h.2.2.1 hx
        refine m_aload_n dX6_held_62 0 rfl rfl ?_
        refine m_get 0 3 (o_0 e _) rfl inlX6 (by decide) q2_2 rfl dX6_held_63 ?_
        refine m_get 18 2 (o_18 e _) rfl inlX1 (by decide) q19_11 rfl dX6_held_66 ?_
        refine m_iload_n dX6_held_69 1 rfl rfl ?_
        refine m_iald 20 (a_20 e _) h.1 dX6_held_70 ?_
        replace h := h.2
        exact m_iret hR ⟨_, rfl, rfl, h⟩ dX6_held_71
      · refine m_sw (tgt := 72) 2 hx dX6_held_20 (by decide) (by decide) rfl (by decide) ?_
        replace h := h.2.2.2.1 hx
        refine m_aload_n dX6_held_72 0 rfl rfl ?_
        refine m_get 0 3 (o_0 e _) rfl inlX6 (by decide) q2_2 rfl dX6_held_73 ?_
        refine m_get 18 3 (o_18 e _) rfl inlX1 (by decide) q19_12 rfl dX6_held_76 ?_
        refine m_iload_n dX6_held_79 1 rfl rfl ?_
        refine m_iald 21 (a_21 e _) h.1 dX6_held_80 ?_
        replace h := h.2
        exact m_iret hR ⟨_, rfl, rfl, h⟩ dX6_held_81
      · refine m_sw (tgt := 82) 3 hx dX6_held_20 (by decide) (by decide) rfl (by decide) ?_
        replace h := h.2.2.2.2 hx
        refine m_aload_n dX6_held_82 0 rfl rfl ?_
        refine m_get 0 3 (o_0 e _) rfl inlX6 (by decide) q2_2 rfl dX6_held_83 ?_
        refine m_get 18 4 (o_18 e _) rfl inlX1 (by decide) q19_13 rfl dX6_held_86 ?_
        refine m_iload_n dX6_held_89 1 rfl rfl ?_
        refine m_iald 22 (a_22 e _) h.1 dX6_held_90 ?_
        replace h := h.2
        exact m_iret hR ⟨_, rfl, rfl, h⟩ dX6_held_91
  · replace h := h.2 z
    refine m_iconst (v := -1) dX6_held_17 (by decide) ?_
    exact m_iret hR ⟨_, rfl, rfl, h⟩ dX6_held_18
def X2_weather_L5 (S5 : St) (f3 : Int32) (f4 : Int32) (kx : Int32 → Prop) : Nat → Int32 → Int32 → Prop
  | 0 => fun _ _ => False
  | n + 1 => (fun (rec : Int32 → Int32 → Prop) => fun (v1 : Int32) (v2 : Int32) => ((f4 < v2 → kx v1) ∧ (¬ f4 < v2 → (((10 : Int32) ≤ v2 → kx v1) ∧ (¬ (10 : Int32) ≤ v2 → (w_X2_isCovered S5 f3 v2  (fun r6 => ((¬ r6 = 0 → ∀ x7 : Int32, x7 = v2 + (1 : Int32) → rec v1 x7) ∧ (r6 = 0 → (vp_in v2 10 ∧ (vp_in f3 6 ∧ ∀ x8 : Int32, x8 = v1 + ((S5.1 14 v2.toNatClampNeg) * (S5.1 12 f3.toNatClampNeg)) → ∀ x9 : Int32, x9 = v2 + (1 : Int32) → rec x8 x9))))))))))) (X2_weather_L5 S5 f3 f4 kx n)
def w_X2_weather (S0 : St) (p1 : Int32) (p2 : Int32) (Q : Int32 → Prop) : Prop :=
  (∃ n : Nat, X2_weather_L5 S0 p1 p2 (fun (v11 : Int32) => Q v11) n (0 : Int32) (0 : Int32))
set_option maxRecDepth 100000 in
set_option maxHeartbeats 4000000 in
theorem l_X2_weather_L5 {Z : Zt} {e : GE} {S5 : St} {f3 : Int32} {f4 : Int32} {kx : Int32 → Prop} (hk : ∀ (v10 : Int32), kx v10 → MW Z e cX2_weather 5 RX2 3 51 [(3, .int v10)] [] S5) : ∀ (n : Nat) (v1 : Int32) (v2 : Int32), X2_weather_L5 S5 f3 f4 kx n v1 v2 → MW Z e cX2_weather 5 RX2 3 5 [(0, .ref (e.2.2.1 11)), (1, .int f3), (2, .int f4), (3, .int v1), (4, .int v2)] [] S5 := by
  intro n
  induction n with
  | zero =>
    intro v1 v2 h
    exact h.elim
  | succ n ih =>
    intro v1 v2 h
    rw [X2_weather_L5] at h
    refine m_iload dX2_weather_5 4 rfl ?_
    refine m_iload_n dX2_weather_7 2 rfl rfl ?_
    refine m_icmp_gt (tgt := 51) dX2_weather_8 (by decide) (fun z => ?_) (fun z => ?_)
    · replace h := h.1 z
      refine m_loc [3] rfl ?_
      exact hk v1 h
    · replace h := h.2 z
      refine m_iload dX2_weather_11 4 rfl ?_
      refine m_bipush (v := 10) dX2_weather_13 (by decide) ?_
      refine m_icmp_ge (tgt := 51) dX2_weather_15 (by decide) (fun z => ?_) (fun z => ?_)
      · replace h := h.1 z
        refine m_loc [3] rfl ?_
        exact hk v1 h
      · replace h := h.2 z
        refine m_aload_n dX2_weather_18 0 rfl rfl ?_
        refine m_iload_n dX2_weather_19 1 rfl rfl ?_
        refine m_iload dX2_weather_20 4 rfl ?_
        refine m_callV 11 [.int f3, .int v2] (c_X2_isCovered h) (o_11 e _) rfl rfl q20_10 q17_22 q17_23 q1_21 q18_0 t_X2_isCovered rfl (by omega) (by decide) (Nat.le_of_ble_eq_true rfl) rfl dX2_weather_22 (kR (P := MW Z e cX2_weather 5 RX2 3 25 [(0, .ref (e.2.2.1 11)), (1, .int f3), (2, .int f4), (3, .int v1), (4, .int v2)]) (fun r6 h => ?_))
        refine m_if_ne (tgt := 45) dX2_weather_25 (by decide) (fun z => ?_) (fun z => ?_)
        · replace h := h.1 z
          obtain ⟨x7, ex7⟩ : ∃ y : Int32, y = v2 + (1 : Int32) := ⟨_, rfl⟩
          replace h := h x7 ex7
          refine m_iinc (v := x7) (lv2 := [(4, .int x7), (0, .ref (e.2.2.1 11)), (1, .int f3), (2, .int f4), (3, .int v1)]) dX2_weather_45 4 rfl ex7.symm (by decide) rfl ?_
          refine m_goto (tgt := 5) dX2_weather_48 (by decide) ?_
          refine m_loc [1, 2, 3, 4, 0] rfl ?_
          exact ih v1 x7 h
        · replace h := h.2 z
          refine m_iload_n dX2_weather_28 3 rfl rfl ?_
          refine m_aload_n dX2_weather_29 0 rfl rfl ?_
          refine m_get 11 5 (o_11 e _) rfl inlX2 (by decide) q3_20 rfl dX2_weather_30 ?_
          refine m_iload dX2_weather_33 4 rfl ?_
          refine m_iald 14 (a_14 e _) h.1 dX2_weather_35 ?_
          replace h := h.2
          refine m_aload_n dX2_weather_36 0 rfl rfl ?_
          refine m_get 11 3 (o_11 e _) rfl inlX2 (by decide) q3_18 rfl dX2_weather_37 ?_
          refine m_iload_n dX2_weather_40 1 rfl rfl ?_
          refine m_iald 12 (a_12 e _) h.1 dX2_weather_41 ?_
          replace h := h.2
          refine m_imul dX2_weather_42 ?_
          refine m_iadd dX2_weather_43 ?_
          refine m_topi (fun x8 ex8 => ?_)
          replace h := h x8 ex8
          refine m_istore_n (lv2 := [(3, .int x8), (0, .ref (e.2.2.1 11)), (1, .int f3), (2, .int f4), (4, .int v2)]) dX2_weather_44 rfl (by decide) rfl ?_
          obtain ⟨x9, ex9⟩ : ∃ y : Int32, y = v2 + (1 : Int32) := ⟨_, rfl⟩
          replace h := h x9 ex9
          refine m_iinc (v := x9) (lv2 := [(4, .int x9), (3, .int x8), (0, .ref (e.2.2.1 11)), (1, .int f3), (2, .int f4)]) dX2_weather_45 4 rfl ex9.symm (by decide) rfl ?_
          refine m_goto (tgt := 5) dX2_weather_48 (by decide) ?_
          refine m_loc [2, 3, 4, 1, 0] rfl ?_
          exact ih x8 x9 h
set_option maxRecDepth 100000 in
set_option maxHeartbeats 4000000 in
theorem c_X2_weather {e : GE} {S0 : St} {p1 : Int32} {p2 : Int32} {Q : Int32 → Prop} (h : w_X2_weather S0 p1 p2 Q) : CT e yX2_weather cX2_weather 5 (some .int) 3 [.ref (e.2.2.1 11), .int p1, .int p2] S0 (pR S0 Q) := by
  refine CT.of (by decide) (Nat.le_of_ble_eq_true rfl) (fun Z hR => ?_)
  rw [w_X2_weather] at h
  show MW Z e cX2_weather 5 RX2 3 0 [(0, .ref (e.2.2.1 11)), (1, .int p1), (2, .int p2)] [] S0
  refine m_iconst (v := 0) dX2_weather_0 (by decide) ?_
  refine m_istore_n (lv2 := [(3, .int (0 : Int32)), (0, .ref (e.2.2.1 11)), (1, .int p1), (2, .int p2)]) dX2_weather_1 rfl (by decide) rfl ?_
  refine m_iconst (v := 0) dX2_weather_2 (by decide) ?_
  refine m_istore (lv2 := [(4, .int (0 : Int32)), (3, .int (0 : Int32)), (0, .ref (e.2.2.1 11)), (1, .int p1), (2, .int p2)]) dX2_weather_3 (by decide) rfl ?_
  obtain ⟨n, h⟩ := h
  refine m_loc [2, 3, 4, 1, 0] rfl ?_
  refine l_X2_weather_L5 (fun v11 h => ?_) n (0 : Int32) (0 : Int32) h
  refine m_iload_n dX2_weather_51 0 rfl rfl ?_
  exact m_iret hR ⟨_, rfl, rfl, h⟩ dX2_weather_52
def X2_dryYears_L6 (S5 : St) (f3 : Int32) (f4 : Int32) (kx : Int32 → Prop) : Nat → Int32 → Int32 → Prop
  | 0 => fun _ _ => False
  | n + 1 => (fun (rec : Int32 → Int32 → Prop) => fun (v1 : Int32) (v2 : Int32) => ((f4 < v2 → kx v1) ∧ (¬ f4 < v2 → (((10 : Int32) ≤ v2 → kx v1) ∧ (¬ (10 : Int32) ≤ v2 → (w_X2_isWet S5 f3 v2  (fun r6 => ((¬ r6 = 0 → ∀ x7 : Int32, x7 = v2 + (1 : Int32) → rec v1 x7) ∧ (r6 = 0 → ∀ x8 : Int32, x8 = v1 + (1 : Int32) → ∀ x9 : Int32, x9 = v2 + (1 : Int32) → rec x8 x9))))))))) (X2_dryYears_L6 S5 f3 f4 kx n)
def w_X2_dryYears (S0 : St) (p1 : Int32) (p2 : Int32) (p3 : Int32) (Q : Int32 → Prop) : Prop :=
  (∃ n : Nat, X2_dryYears_L6 S0 p1 p3 (fun (v11 : Int32) => Q v11) n (0 : Int32) p2)
set_option maxRecDepth 100000 in
set_option maxHeartbeats 4000000 in
theorem l_X2_dryYears_L6 {Z : Zt} {e : GE} {S5 : St} {f3 : Int32} {f4 : Int32} {kx : Int32 → Prop} (hk : ∀ (v10 : Int32), kx v10 → MW Z e cX2_dryYears 6 RX2 2 38 [(4, .int v10)] [] S5) : ∀ (n : Nat) (v1 : Int32) (v2 : Int32), X2_dryYears_L6 S5 f3 f4 kx n v1 v2 → MW Z e cX2_dryYears 6 RX2 2 6 [(0, .ref (e.2.2.1 11)), (1, .int f3), (3, .int f4), (4, .int v1), (5, .int v2)] [] S5 := by
  intro n
  induction n with
  | zero =>
    intro v1 v2 h
    exact h.elim
  | succ n ih =>
    intro v1 v2 h
    rw [X2_dryYears_L6] at h
    refine m_iload dX2_dryYears_6 4 rfl ?_
    refine m_iload_n dX2_dryYears_8 2 rfl rfl ?_
    refine m_icmp_gt (tgt := 38) dX2_dryYears_9 (by decide) (fun z => ?_) (fun z => ?_)
    · replace h := h.1 z
      refine m_loc [3] rfl ?_
      exact hk v1 h
    · replace h := h.2 z
      refine m_iload dX2_dryYears_12 4 rfl ?_
      refine m_bipush (v := 10) dX2_dryYears_14 (by decide) ?_
      refine m_icmp_ge (tgt := 38) dX2_dryYears_16 (by decide) (fun z => ?_) (fun z => ?_)
      · replace h := h.1 z
        refine m_loc [3] rfl ?_
        exact hk v1 h
      · replace h := h.2 z
        refine m_aload_n dX2_dryYears_19 0 rfl rfl ?_
        refine m_iload_n dX2_dryYears_20 1 rfl rfl ?_
        refine m_iload dX2_dryYears_21 4 rfl ?_
        refine m_callV 11 [.int f3, .int v2] (c_X2_isWet h) (o_11 e _) rfl rfl q20_15 q17_18 q17_19 q1_21 q17_20 t_X2_isWet rfl (by omega) (by decide) (Nat.le_of_ble_eq_true rfl) rfl dX2_dryYears_23 (kR (P := MW Z e cX2_dryYears 6 RX2 2 26 [(0, .ref (e.2.2.1 11)), (1, .int f3), (3, .int f4), (4, .int v1), (5, .int v2)]) (fun r6 h => ?_))
        refine m_if_ne (tgt := 32) dX2_dryYears_26 (by decide) (fun z => ?_) (fun z => ?_)
        · replace h := h.1 z
          obtain ⟨x7, ex7⟩ : ∃ y : Int32, y = v2 + (1 : Int32) := ⟨_, rfl⟩
          replace h := h x7 ex7
          refine m_iinc (v := x7) (lv2 := [(5, .int x7), (0, .ref (e.2.2.1 11)), (1, .int f3), (3, .int f4), (4, .int v1)]) dX2_dryYears_32 4 rfl ex7.symm (by decide) rfl ?_
          refine m_goto (tgt := 6) dX2_dryYears_35 (by decide) ?_
          refine m_loc [1, 2, 3, 4, 0] rfl ?_
          exact ih v1 x7 h
        · replace h := h.2 z
          obtain ⟨x8, ex8⟩ : ∃ y : Int32, y = v1 + (1 : Int32) := ⟨_, rfl⟩
          replace h := h x8 ex8
          refine m_iinc (v := x8) (lv2 := [(4, .int x8), (0, .ref (e.2.2.1 11)), (1, .int f3), (3, .int f4), (5, .int v2)]) dX2_dryYears_29 3 rfl ex8.symm (by decide) rfl ?_
          obtain ⟨x9, ex9⟩ : ∃ y : Int32, y = v2 + (1 : Int32) := ⟨_, rfl⟩
          replace h := h x9 ex9
          refine m_iinc (v := x9) (lv2 := [(5, .int x9), (4, .int x8), (0, .ref (e.2.2.1 11)), (1, .int f3), (3, .int f4)]) dX2_dryYears_32 4 rfl ex9.symm (by decide) rfl ?_
          refine m_goto (tgt := 6) dX2_dryYears_35 (by decide) ?_
          refine m_loc [2, 3, 4, 1, 0] rfl ?_
          exact ih x8 x9 h
set_option maxRecDepth 100000 in
set_option maxHeartbeats 4000000 in
theorem c_X2_dryYears {e : GE} {S0 : St} {p1 : Int32} {p2 : Int32} {p3 : Int32} {Q : Int32 → Prop} (h : w_X2_dryYears S0 p1 p2 p3 Q) : CT e yX2_dryYears cX2_dryYears 6 (some .int) 2 [.ref (e.2.2.1 11), .int p1, .int p2, .int p3] S0 (pR S0 Q) := by
  refine CT.of (by decide) (Nat.le_of_ble_eq_true rfl) (fun Z hR => ?_)
  rw [w_X2_dryYears] at h
  show MW Z e cX2_dryYears 6 RX2 2 0 [(0, .ref (e.2.2.1 11)), (1, .int p1), (2, .int p2), (3, .int p3)] [] S0
  refine m_iconst (v := 0) dX2_dryYears_0 (by decide) ?_
  refine m_istore (lv2 := [(4, .int (0 : Int32)), (0, .ref (e.2.2.1 11)), (1, .int p1), (2, .int p2), (3, .int p3)]) dX2_dryYears_1 (by decide) rfl ?_
  refine m_iload_n dX2_dryYears_3 3 rfl rfl ?_
  refine m_istore (lv2 := [(5, .int p2), (4, .int (0 : Int32)), (0, .ref (e.2.2.1 11)), (1, .int p1), (2, .int p2), (3, .int p3)]) dX2_dryYears_4 (by decide) rfl ?_
  obtain ⟨n, h⟩ := h
  refine m_loc [2, 3, 5, 1, 0] rfl ?_
  refine l_X2_dryYears_L6 (fun v11 h => ?_) n (0 : Int32) p2 h
  refine m_iload dX2_dryYears_38 0 rfl ?_
  exact m_iret hR ⟨_, rfl, rfl, h⟩ dX2_dryYears_40
def X6_rustByHolds_L13 (S6 : St) (f4 : Int32) (f5 : Int32) (kx : Int32 → Prop) : Nat → Int32 → Int32 → Prop
  | 0 => fun _ _ => False
  | n + 1 => (fun (rec : Int32 → Int32 → Prop) => fun (v2 : Int32) (v3 : Int32) => (((S6.1 1900 0) ≤ v3 → kx v2) ∧ (¬ (S6.1 1900 0) ≤ v3 → (vp_in v3 12 ∧ ((¬ (S6.1 20 v3.toNatClampNeg) = f4 → ∀ x7 : Int32, x7 = v3 + (1 : Int32) → rec v2 x7) ∧ ((S6.1 20 v3.toNatClampNeg) = f4 → (vp_in v3 12 ∧ (vp_in v3 12 ∧ (∀ x8 : Int32, x8 = (if (((S6.1 21 v3.toNatClampNeg) + (S6.1 22 v3.toNatClampNeg)) - (1 : Int32)) < f5 then (((S6.1 21 v3.toNatClampNeg) + (S6.1 22 v3.toNatClampNeg)) - (1 : Int32)) else f5) → (vp_in v3 12 ∧ (vp_in (S6.1 19 v3.toNatClampNeg) 3 ∧ (vp_in v3 12 ∧ (w_X2_dryYears S6 f4 (S6.1 21 v3.toNatClampNeg) x8  (fun r9 => ∀ x10 : Int32, x10 = v2 + ((S6.1 13 (S6.1 19 v3.toNatClampNeg).toNatClampNeg) * r9) → ∀ x11 : Int32, x11 = v3 + (1 : Int32) → rec x10 x11)))))))))))))) (X6_rustByHolds_L13 S6 f4 f5 kx n)
def w_X6_rustByHolds (S0 : St) (p1 : Int32) (p2 : Int32) (Q : Int32 → Prop) : Prop :=
  (w_X2_weather S0 p1 p2  (fun r1 => (∃ n : Nat, X6_rustByHolds_L13 S0 p1 p2 (fun (v13 : Int32) => Q v13) n r1 (0 : Int32))))
set_option maxRecDepth 100000 in
set_option maxHeartbeats 4000000 in
theorem l_X6_rustByHolds_L13 {Z : Zt} {e : GE} {S6 : St} {f4 : Int32} {f5 : Int32} {kx : Int32 → Prop} (hk : ∀ (v12 : Int32), kx v12 → MW Z e cX6_rustByHolds 6 RX6 4 116 [(3, .int v12)] [] S6) : ∀ (n : Nat) (v2 : Int32) (v3 : Int32), X6_rustByHolds_L13 S6 f4 f5 kx n v2 v3 → MW Z e cX6_rustByHolds 6 RX6 4 13 [(0, .ref (e.2.2.1 0)), (1, .int f4), (2, .int f5), (3, .int v2), (4, .int v3)] [] S6 := by
  intro n
  induction n with
  | zero =>
    intro v2 v3 h
    exact h.elim
  | succ n ih =>
    intro v2 v3 h
    rw [X6_rustByHolds_L13] at h
    refine m_iload dX6_rustByHolds_13 4 rfl ?_
    refine m_aload_n dX6_rustByHolds_15 0 rfl rfl ?_
    refine m_get 0 3 (o_0 e _) rfl inlX6 (by decide) q2_2 rfl dX6_rustByHolds_16 ?_
    refine m_get 18 0 (o_18 e _) rfl inlX1 (by decide) q18_13 rfl dX6_rustByHolds_19 ?_
    refine m_icmp_ge (tgt := 116) dX6_rustByHolds_22 (by decide) (fun z => ?_) (fun z => ?_)
    · replace h := h.1 z
      refine m_loc [3] rfl ?_
      exact hk v2 h
    · replace h := h.2 z
      refine m_aload_n dX6_rustByHolds_25 0 rfl rfl ?_
      refine m_get 0 3 (o_0 e _) rfl inlX6 (by decide) q2_2 rfl dX6_rustByHolds_26 ?_
      refine m_get 18 2 (o_18 e _) rfl inlX1 (by decide) q19_11 rfl dX6_rustByHolds_29 ?_
      refine m_iload dX6_rustByHolds_32 4 rfl ?_
      refine m_iald 20 (a_20 e _) h.1 dX6_rustByHolds_34 ?_
      replace h := h.2
      refine m_iload_n dX6_rustByHolds_35 1 rfl rfl ?_
      refine m_icmp_ne (tgt := 110) dX6_rustByHolds_36 (by decide) (fun z => ?_) (fun z => ?_)
      · replace h := h.1 z
        obtain ⟨x7, ex7⟩ : ∃ y : Int32, y = v3 + (1 : Int32) := ⟨_, rfl⟩
        replace h := h x7 ex7
        refine m_iinc (v := x7) (lv2 := [(4, .int x7), (0, .ref (e.2.2.1 0)), (1, .int f4), (2, .int f5), (3, .int v2)]) dX6_rustByHolds_110 4 rfl ex7.symm (by decide) rfl ?_
        refine m_goto (tgt := 13) dX6_rustByHolds_113 (by decide) ?_
        refine m_loc [1, 2, 3, 4, 0] rfl ?_
        exact ih v2 x7 h
      · replace h := h.2 z
        refine m_iload_n dX6_rustByHolds_39 2 rfl rfl ?_
        refine m_aload_n dX6_rustByHolds_40 0 rfl rfl ?_
        refine m_get 0 3 (o_0 e _) rfl inlX6 (by decide) q2_2 rfl dX6_rustByHolds_41 ?_
        refine m_get 18 3 (o_18 e _) rfl inlX1 (by decide) q19_12 rfl dX6_rustByHolds_44 ?_
        refine m_iload dX6_rustByHolds_47 4 rfl ?_
        refine m_iald 21 (a_21 e _) h.1 dX6_rustByHolds_49 ?_
        replace h := h.2
        refine m_aload_n dX6_rustByHolds_50 0 rfl rfl ?_
        refine m_get 0 3 (o_0 e _) rfl inlX6 (by decide) q2_2 rfl dX6_rustByHolds_51 ?_
        refine m_get 18 4 (o_18 e _) rfl inlX1 (by decide) q19_13 rfl dX6_rustByHolds_54 ?_
        refine m_iload dX6_rustByHolds_57 4 rfl ?_
        refine m_iald 22 (a_22 e _) h.1 dX6_rustByHolds_59 ?_
        replace h := h.2
        refine m_iadd dX6_rustByHolds_60 ?_
        refine m_iconst (v := 1) dX6_rustByHolds_61 (by decide) ?_
        refine m_isub dX6_rustByHolds_62 ?_
        refine m_mmin q20_2 q20_3 q20_4 q20_5 (by omega) (Nat.le_of_ble_eq_true rfl) dX6_rustByHolds_63 ?_
        refine m_topi (fun x8 ex8 => ?_)
        replace h := h x8 ex8
        refine m_istore (lv2 := [(5, .int x8), (0, .ref (e.2.2.1 0)), (1, .int f4), (2, .int f5), (3, .int v2), (4, .int v3)]) dX6_rustByHolds_66 (by decide) rfl ?_
        refine m_iload_n dX6_rustByHolds_68 4 rfl rfl ?_
        refine m_aload_n dX6_rustByHolds_69 1 rfl rfl ?_
        refine m_get 0 2 (o_0 e _) rfl inlX6 (by decide) q1_22 rfl dX6_rustByHolds_70 ?_
        refine m_get 11 4 (o_11 e _) rfl inlX2 (by decide) q16_12 rfl dX6_rustByHolds_73 ?_
        refine m_aload_n dX6_rustByHolds_76 1 rfl rfl ?_
        refine m_get 0 3 (o_0 e _) rfl inlX6 (by decide) q2_2 rfl dX6_rustByHolds_77 ?_
        refine m_get 18 1 (o_18 e _) rfl inlX1 (by decide) q19_10 rfl dX6_rustByHolds_80 ?_
        refine m_iload dX6_rustByHolds_83 5 rfl ?_
        refine m_iald 19 (a_19 e _) h.1 dX6_rustByHolds_85 ?_
        replace h := h.2
        refine m_iald 13 (a_13 e _) h.1 dX6_rustByHolds_86 ?_
        replace h := h.2
        refine m_aload_n dX6_rustByHolds_87 1 rfl rfl ?_
        refine m_get 0 2 (o_0 e _) rfl inlX6 (by decide) q1_22 rfl dX6_rustByHolds_88 ?_
        refine m_iload_n dX6_rustByHolds_91 2 rfl rfl ?_
        refine m_aload_n dX6_rustByHolds_92 1 rfl rfl ?_
        refine m_get 0 3 (o_0 e _) rfl inlX6 (by decide) q2_2 rfl dX6_rustByHolds_93 ?_
        refine m_get 18 3 (o_18 e _) rfl inlX1 (by decide) q19_12 rfl dX6_rustByHolds_96 ?_
        refine m_iload dX6_rustByHolds_99 5 rfl ?_
        refine m_iald 21 (a_21 e _) h.1 dX6_rustByHolds_101 ?_
        replace h := h.2
        refine m_iload dX6_rustByHolds_102 0 rfl ?_
        refine m_callV 11 [.int f4, .int (S6.1 21 v3.toNatClampNeg), .int x8] (c_X2_dryYears h) (o_11 e _) rfl rfl q20_11 q20_12 q20_13 q1_21 q20_14 t_X2_dryYears rfl (by omega) (by decide) (Nat.le_of_ble_eq_true rfl) rfl dX6_rustByHolds_104 (kR (P := MW Z e cX6_rustByHolds 6 RX6 4 107 [(5, .int x8), (0, .ref (e.2.2.1 0)), (1, .int f4), (2, .int f5), (3, .int v2), (4, .int v3)]) (fun r9 h => ?_))
        refine m_imul dX6_rustByHolds_107 ?_
        refine m_iadd dX6_rustByHolds_108 ?_
        refine m_topi (fun x10 ex10 => ?_)
        replace h := h x10 ex10
        refine m_istore_n (lv2 := [(3, .int x10), (5, .int x8), (0, .ref (e.2.2.1 0)), (1, .int f4), (2, .int f5), (4, .int v3)]) dX6_rustByHolds_109 rfl (by decide) rfl ?_
        obtain ⟨x11, ex11⟩ : ∃ y : Int32, y = v3 + (1 : Int32) := ⟨_, rfl⟩
        replace h := h x11 ex11
        refine m_iinc (v := x11) (lv2 := [(4, .int x11), (3, .int x10), (5, .int x8), (0, .ref (e.2.2.1 0)), (1, .int f4), (2, .int f5)]) dX6_rustByHolds_110 5 rfl ex11.symm (by decide) rfl ?_
        refine m_goto (tgt := 13) dX6_rustByHolds_113 (by decide) ?_
        refine m_loc [3, 4, 5, 1, 0] rfl ?_
        exact ih x10 x11 h
set_option maxRecDepth 100000 in
set_option maxHeartbeats 4000000 in
theorem c_X6_rustByHolds {e : GE} {S0 : St} {p1 : Int32} {p2 : Int32} {Q : Int32 → Prop} (h : w_X6_rustByHolds S0 p1 p2 Q) : CT e yX6_rustByHolds cX6_rustByHolds 6 (some .int) 4 [.ref (e.2.2.1 0), .int p1, .int p2] S0 (pR S0 Q) := by
  refine CT.of (by decide) (Nat.le_of_ble_eq_true rfl) (fun Z hR => ?_)
  rw [w_X6_rustByHolds] at h
  show MW Z e cX6_rustByHolds 6 RX6 4 0 [(0, .ref (e.2.2.1 0)), (1, .int p1), (2, .int p2)] [] S0
  refine m_aload_n dX6_rustByHolds_0 0 rfl rfl ?_
  refine m_get 0 2 (o_0 e _) rfl inlX6 (by decide) q1_22 rfl dX6_rustByHolds_1 ?_
  refine m_iload_n dX6_rustByHolds_4 1 rfl rfl ?_
  refine m_iload_n dX6_rustByHolds_5 2 rfl rfl ?_
  refine m_callV 11 [.int p1, .int p2] (c_X2_weather h) (o_11 e _) rfl rfl q20_6 q20_7 q20_8 q1_21 q20_9 t_X2_weather rfl (by omega) (by decide) (Nat.le_of_ble_eq_true rfl) rfl dX6_rustByHolds_6 (kR (P := MW Z e cX6_rustByHolds 6 RX6 4 9 [(0, .ref (e.2.2.1 0)), (1, .int p1), (2, .int p2)]) (fun r1 h => ?_))
  refine m_istore_n (lv2 := [(3, .int r1), (0, .ref (e.2.2.1 0)), (1, .int p1), (2, .int p2)]) dX6_rustByHolds_9 rfl (by decide) rfl ?_
  refine m_iconst (v := 0) dX6_rustByHolds_10 (by decide) ?_
  refine m_istore (lv2 := [(4, .int (0 : Int32)), (3, .int r1), (0, .ref (e.2.2.1 0)), (1, .int p1), (2, .int p2)]) dX6_rustByHolds_11 (by decide) rfl ?_
  obtain ⟨n, h⟩ := h
  refine m_loc [2, 3, 4, 1, 0] rfl ?_
  refine l_X6_rustByHolds_L13 (fun v13 h => ?_) n r1 (0 : Int32) h
  refine m_iload_n dX6_rustByHolds_116 0 rfl rfl ?_
  exact m_iret hR ⟨_, rfl, rfl, h⟩ dX6_rustByHolds_117
