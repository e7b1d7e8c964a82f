def w_X6_rust (S0 : St) (p1 : Int32) (p2 : Int32) (Q : Int32 → Prop) : Prop :=
  (w_X2_hasBar S0 p1  (fun r1 => ((r1 = 0 → Q (-1 : Int32)) ∧ (¬ r1 = 0 → (w_X6_isYear p2  (fun r2 => ((¬ r2 = 0 → (w_X6_rustByHolds S0 p1 p2  (fun r3 => Q r3))) ∧ (r2 = 0 → Q (-1 : Int32)))))))))
set_option maxRecDepth 100000 in
set_option maxHeartbeats 4000000 in
theorem c_X6_rust {e : GE} {S0 : St} {p1 : Int32} {p2 : Int32} {Q : Int32 → Prop} (h : w_X6_rust S0 p1 p2 Q) : CT e yX6_rust cX6_rust 3 (some .int) 5 [.ref (e.2.2.1 0), .int p1, .int p2] S0 (pR S0 Q) := by
  refine CT.of (by decide) (Nat.le_of_ble_eq_true rfl) (fun Z hR => ?_)
  rw [w_X6_rust] at h
  show MW Z e cX6_rust 3 RX6 5 0 [(0, .ref (e.2.2.1 0)), (1, .int p1), (2, .int p2)] [] S0
  refine m_aload_n dX6_rust_0 0 rfl rfl ?_
  refine m_get 0 2 (o_0 e _) rfl inlX6 (by decide) q1_22 rfl dX6_rust_1 ?_
  refine m_iload_n dX6_rust_4 1 rfl rfl ?_
  refine m_callV 11 [.int p1] (c_X2_hasBar h) (o_11 e _) rfl rfl q15_20 q15_21 q15_22 q1_21 q15_23 t_X2_hasBar rfl (by omega) (by decide) (Nat.le_of_ble_eq_true rfl) rfl dX6_rust_5 (kR (P := MW Z e cX6_rust 3 RX6 5 8 [(0, .ref (e.2.2.1 0)), (1, .int p1), (2, .int p2)]) (fun r1 h => ?_))
  refine m_if_eq (tgt := 18) dX6_rust_8 (by decide) (fun z => ?_) (fun z => ?_)
  · replace h := h.1 z
    refine m_iconst (v := -1) dX6_rust_18 (by decide) ?_
    exact m_iret hR ⟨_, rfl, rfl, h⟩ dX6_rust_19
  · replace h := h.2 z
    refine m_iload_n dX6_rust_11 2 rfl rfl ?_
    refine m_callS [.int p2] (c_X6_isYear h) q17_6 q17_7 q1_2 q17_8 t_X6_isYear rfl (by omega) (by decide) (Nat.le_of_ble_eq_true rfl) rfl dX6_rust_12 (kR (P := MW Z e cX6_rust 3 RX6 5 15 [(0, .ref (e.2.2.1 0)), (1, .int p1), (2, .int p2)]) (fun r2 h => ?_))
    refine m_if_ne (tgt := 20) dX6_rust_15 (by decide) (fun z => ?_) (fun z => ?_)
    · replace h := h.1 z
      refine m_aload_n dX6_rust_20 0 rfl rfl ?_
      refine m_iload_n dX6_rust_21 1 rfl rfl ?_
      refine m_iload_n dX6_rust_22 2 rfl rfl ?_
      refine m_callV 0 [.int p1, .int p2] (c_X6_rustByHolds h) (o_0 e _) rfl rfl q19_22 q19_23 q20_0 q1_2 q20_1 t_X6_rustByHolds rfl (by omega) (by decide) (Nat.le_of_ble_eq_true rfl) rfl dX6_rust_23 (kR (P := MW Z e cX6_rust 3 RX6 5 26 [(0, .ref (e.2.2.1 0)), (1, .int p1), (2, .int p2)]) (fun r3 h => ?_))
      exact m_iret hR ⟨_, rfl, rfl, h⟩ dX6_rust_26
    · replace h := h.2 z
      refine m_iconst (v := -1) dX6_rust_18 (by decide) ?_
      exact m_iret hR ⟨_, rfl, rfl, h⟩ dX6_rust_19
def w_X6_saw (S0 : St) (p1 : Int32) (p2 : Int32) (Q : Int32 → St → Prop) : Prop :=
  (w_X2_hasBar S0 p1  (fun r1 => ((r1 = 0 → Q (-1 : Int32) S0) ∧ (¬ r1 = 0 → (w_X6_within p2 (0 : Int32) (999 : Int32)  (fun r2 => ((¬ r2 = 0 → (vp_in p1 6 ∧ ∀ x3 : Int32, x3 = S0.1 23 p1.toNatClampNeg → (vp_in p1 6 ∧ ∀ S4 : St, S4 = setA S0 23 (upd (S0.1 23) p1.toNatClampNeg p2) → Q x3 S4))) ∧ (r2 = 0 → Q (-1 : Int32) S0))))))))
set_option maxRecDepth 100000 in
set_option maxHeartbeats 4000000 in
theorem c_X6_saw {e : GE} {S0 : St} {p1 : Int32} {p2 : Int32} {Q : Int32 → St → Prop} (h : w_X6_saw S0 p1 p2 Q) : CT e yX6_saw cX6_saw 4 (some .int) 3 [.ref (e.2.2.1 0), .int p1, .int p2] S0 (pI Q) := by
  refine CT.of (by decide) (Nat.le_of_ble_eq_true rfl) (fun Z hR => ?_)
  rw [w_X6_saw] at h
  show MW Z e cX6_saw 4 RX6 3 0 [(0, .ref (e.2.2.1 0)), (1, .int p1), (2, .int p2)] [] S0
  refine m_aload_n dX6_saw_0 0 rfl rfl ?_
  refine m_get 0 2 (o_0 e _) rfl inlX6 (by decide) q1_22 rfl dX6_saw_1 ?_
  refine m_iload_n dX6_saw_4 1 rfl rfl ?_
  refine m_callV 11 [.int p1] (c_X2_hasBar h) (o_11 e _) rfl rfl q15_20 q15_21 q15_22 q1_21 q15_23 t_X2_hasBar rfl (by omega) (by decide) (Nat.le_of_ble_eq_true rfl) rfl dX6_saw_5 (kR (P := MW Z e cX6_saw 4 RX6 3 8 [(0, .ref (e.2.2.1 0)), (1, .int p1), (2, .int p2)]) (fun r1 h => ?_))
  refine m_if_eq (tgt := 22) dX6_saw_8 (by decide) (fun z => ?_) (fun z => ?_)
  · replace h := h.1 z
    refine m_iconst (v := -1) dX6_saw_22 (by decide) ?_
    exact m_iret hR ⟨_, rfl, h⟩ dX6_saw_23
  · replace h := h.2 z
    refine m_iload_n dX6_saw_11 2 rfl rfl ?_
    refine m_iconst (v := 0) dX6_saw_12 (by decide) ?_
    refine m_sipush (v := 999) dX6_saw_13 (by decide) ?_
    refine m_callS [.int p2, .int (0 : Int32), .int (999 : Int32)] (c_X6_within h) q8_19 q8_20 q1_2 q8_21 t_X6_within rfl (by omega) (by decide) (Nat.le_of_ble_eq_true rfl) rfl dX6_saw_16 (kR (P := MW Z e cX6_saw 4 RX6 3 19 [(0, .ref (e.2.2.1 0)), (1, .int p1), (2, .int p2)]) (fun r2 h => ?_))
    refine m_if_ne (tgt := 24) dX6_saw_19 (by decide) (fun z => ?_) (fun z => ?_)
    · replace h := h.1 z
      refine m_aload_n dX6_saw_24 0 rfl rfl ?_
      refine m_get 0 3 (o_0 e _) rfl inlX6 (by decide) q2_2 rfl dX6_saw_25 ?_
      refine m_get 18 5 (o_18 e _) rfl inlX1 (by decide) q21_8 rfl dX6_saw_28 ?_
      refine m_iload_n dX6_saw_31 1 rfl rfl ?_
      refine m_iald 23 (a_23 e _) h.1 dX6_saw_32 ?_
      replace h := h.2
      refine m_topi (fun x3 ex3 => ?_)
      replace h := h x3 ex3
      refine m_istore_n (lv2 := [(3, .int x3), (0, .ref (e.2.2.1 0)), (1, .int p1), (2, .int p2)]) dX6_saw_33 rfl (by decide) rfl ?_
      refine m_aload_n dX6_saw_34 1 rfl rfl ?_
      refine m_get 0 3 (o_0 e _) rfl inlX6 (by decide) q2_2 rfl dX6_saw_35 ?_
      refine m_get 18 5 (o_18 e _) rfl inlX1 (by decide) q21_8 rfl dX6_saw_38 ?_
      refine m_iload_n dX6_saw_41 2 rfl rfl ?_
      refine m_iload_n dX6_saw_42 3 rfl rfl ?_
      refine m_iast 23 (a_23 e _) (aw_23 e _) h.1 dX6_saw_43 (fun S4 eS4 => ?_)
      replace h := h.2 S4 eS4
      refine m_iload_n dX6_saw_44 0 rfl rfl ?_
      exact m_iret hR ⟨_, rfl, h⟩ dX6_saw_45
    · replace h := h.2 z
      refine m_iconst (v := -1) dX6_saw_22 (by decide) ?_
      exact m_iret hR ⟨_, rfl, h⟩ dX6_saw_23
def w_X6_hide (S0 : St) (p1 : Int32) (Q : Int32 → St → Prop) : Prop :=
  (w_X2_hasBar S0 p1  (fun r1 => ((¬ r1 = 0 → (vp_in p1 6 ∧ ∀ x2 : Int32, x2 = S0.1 23 p1.toNatClampNeg → ((¬ x2 = (-9 : Int32) → (vp_in p1 6 ∧ ∀ S3 : St, S3 = setA S0 23 (upd (S0.1 23) p1.toNatClampNeg (-9 : Int32)) → Q x2 S3)) ∧ (x2 = (-9 : Int32) → Q (-2 : Int32) S0)))) ∧ (r1 = 0 → Q (-1 : Int32) S0))))
set_option maxRecDepth 100000 in
set_option maxHeartbeats 4000000 in
theorem c_X6_hide {e : GE} {S0 : St} {p1 : Int32} {Q : Int32 → St → Prop} (h : w_X6_hide S0 p1 Q) : CT e yX6_hide cX6_hide 3 (some .int) 3 [.ref (e.2.2.1 0), .int p1] S0 (pI Q) := by
  refine CT.of (by decide) (Nat.le_of_ble_eq_true rfl) (fun Z hR => ?_)
  rw [w_X6_hide] at h
  show MW Z e cX6_hide 3 RX6 3 0 [(0, .ref (e.2.2.1 0)), (1, .int p1)] [] S0
  refine m_aload_n dX6_hide_0 0 rfl rfl ?_
  refine m_get 0 2 (o_0 e _) rfl inlX6 (by decide) q1_22 rfl dX6_hide_1 ?_
  refine m_iload_n dX6_hide_4 1 rfl rfl ?_
  refine m_callV 11 [.int p1] (c_X2_hasBar h) (o_11 e _) rfl rfl q15_20 q15_21 q15_22 q1_21 q15_23 t_X2_hasBar rfl (by omega) (by decide) (Nat.le_of_ble_eq_true rfl) rfl dX6_hide_5 (kR (P := MW Z e cX6_hide 3 RX6 3 8 [(0, .ref (e.2.2.1 0)), (1, .int p1)]) (fun r1 h => ?_))
  refine m_if_ne (tgt := 13) dX6_hide_8 (by decide) (fun z => ?_) (fun z => ?_)
  · replace h := h.1 z
    refine m_aload_n dX6_hide_13 0 rfl rfl ?_
    refine m_get 0 3 (o_0 e _) rfl inlX6 (by decide) q2_2 rfl dX6_hide_14 ?_
    refine m_get 18 5 (o_18 e _) rfl inlX1 (by decide) q21_8 rfl dX6_hide_17 ?_
    refine m_iload_n dX6_hide_20 1 rfl rfl ?_
    refine m_iald 23 (a_23 e _) h.1 dX6_hide_21 ?_
    replace h := h.2
    refine m_topi (fun x2 ex2 => ?_)
    replace h := h x2 ex2
    refine m_istore_n (lv2 := [(2, .int x2), (0, .ref (e.2.2.1 0)), (1, .int p1)]) dX6_hide_22 rfl (by decide) rfl ?_
    refine m_iload_n dX6_hide_23 0 rfl rfl ?_
    refine m_bipush (v := -9) dX6_hide_24 (by decide) ?_
    refine m_icmp_ne (tgt := 32) dX6_hide_26 (by decide) (fun z => ?_) (fun z => ?_)
    · replace h := h.1 z
      refine m_aload_n dX6_hide_32 1 rfl rfl ?_
      refine m_get 0 3 (o_0 e _) rfl inlX6 (by decide) q2_2 rfl dX6_hide_33 ?_
      refine m_get 18 5 (o_18 e _) rfl inlX1 (by decide) q21_8 rfl dX6_hide_36 ?_
      refine m_iload_n dX6_hide_39 2 rfl rfl ?_
      refine m_bipush (v := -9) dX6_hide_40 (by decide) ?_
      refine m_iast 23 (a_23 e _) (aw_23 e _) h.1 dX6_hide_42 (fun S3 eS3 => ?_)
      replace h := h.2 S3 eS3
      refine m_iload_n dX6_hide_43 0 rfl rfl ?_
      exact m_iret hR ⟨_, rfl, h⟩ dX6_hide_44
    · replace h := h.2 z
      refine m_bipush (v := -2) dX6_hide_29 (by decide) ?_
      exact m_iret hR ⟨_, rfl, h⟩ dX6_hide_31
  · replace h := h.2 z
    refine m_iconst (v := -1) dX6_hide_11 (by decide) ?_
    exact m_iret hR ⟨_, rfl, h⟩ dX6_hide_12
def w_X6_seen (S0 : St) (p1 : Int32) (Q : Int32 → Prop) : Prop :=
  (w_X2_hasBar S0 p1  (fun r1 => ((r1 = 0 → Q (-1 : Int32)) ∧ (¬ r1 = 0 → (vp_in p1 6 ∧ Q (S0.1 23 p1.toNatClampNeg))))))
set_option maxRecDepth 100000 in
set_option maxHeartbeats 4000000 in
theorem c_X6_seen {e : GE} {S0 : St} {p1 : Int32} {Q : Int32 → Prop} (h : w_X6_seen S0 p1 Q) : CT e yX6_seen cX6_seen 2 (some .int) 3 [.ref (e.2.2.1 0), .int p1] S0 (pR S0 Q) := by
  refine CT.of (by decide) (Nat.le_of_ble_eq_true rfl) (fun Z hR => ?_)
  rw [w_X6_seen] at h
  show MW Z e cX6_seen 2 RX6 3 0 [(0, .ref (e.2.2.1 0)), (1, .int p1)] [] S0
  refine m_aload_n dX6_seen_0 0 rfl rfl ?_
  refine m_get 0 2 (o_0 e _) rfl inlX6 (by decide) q1_22 rfl dX6_seen_1 ?_
  refine m_iload_n dX6_seen_4 1 rfl rfl ?_
  refine m_callV 11 [.int p1] (c_X2_hasBar h) (o_11 e _) rfl rfl q15_20 q15_21 q15_22 q1_21 q15_23 t_X2_hasBar rfl (by omega) (by decide) (Nat.le_of_ble_eq_true rfl) rfl dX6_seen_5 (kR (P := MW Z e cX6_seen 2 RX6 3 8 [(0, .ref (e.2.2.1 0)), (1, .int p1)]) (fun r1 h => ?_))
  refine m_if_eq (tgt := 23) dX6_seen_8 (by decide) (fun z => ?_) (fun z => ?_)
  · replace h := h.1 z
    refine m_iconst (v := -1) dX6_seen_23 (by decide) ?_
    exact m_iret hR ⟨_, rfl, rfl, h⟩ dX6_seen_24
  · replace h := h.2 z
    refine m_aload_n dX6_seen_11 0 rfl rfl ?_
    refine m_get 0 3 (o_0 e _) rfl inlX6 (by decide) q2_2 rfl dX6_seen_12 ?_
    refine m_get 18 5 (o_18 e _) rfl inlX1 (by decide) q21_8 rfl dX6_seen_15 ?_
    refine m_iload_n dX6_seen_18 1 rfl rfl ?_
    refine m_iald 23 (a_23 e _) h.1 dX6_seen_19 ?_
    replace h := h.2
    refine m_goto (tgt := 24) dX6_seen_20 (by decide) ?_
    exact m_iret hR ⟨_, rfl, rfl, h⟩ dX6_seen_24
def w_X5_isIn (p1 : Int32) (p2 : Int32) (Q : Int32 → Prop) : Prop :=
  ((¬ ((p1 >>> (p2 &&& 31)) &&& (1 : Int32)) = (1 : Int32) → Q (0 : Int32)) ∧ (((p1 >>> (p2 &&& 31)) &&& (1 : Int32)) = (1 : Int32) → Q (1 : Int32)))
set_option maxRecDepth 100000 in
set_option maxHeartbeats 4000000 in
theorem c_X5_isIn {e : GE} {S0 : St} {p1 : Int32} {p2 : Int32} {Q : Int32 → Prop} (h : w_X5_isIn p1 p2 Q) : CT e yX5_isIn cX5_isIn 2 (some .boolean) 1 [.int p1, .int p2] S0 (pR S0 Q) := by
  refine CT.of (by decide) (Nat.le_of_ble_eq_true rfl) (fun Z hR => ?_)
  rw [w_X5_isIn] at h
  show MW Z e cX5_isIn 2 RX5 1 0 [(0, .int p1), (1, .int p2)] [] S0
  refine m_iload_n dX5_isIn_0 0 rfl rfl ?_
  refine m_iload_n dX5_isIn_1 1 rfl rfl ?_
  refine m_ishr dX5_isIn_2 ?_
  refine m_iconst (v := 1) dX5_isIn_3 (by decide) ?_
  refine m_iand dX5_isIn_4 ?_
  refine m_iconst (v := 1) dX5_isIn_5 (by decide) ?_
  refine m_icmp_ne (tgt := 13) dX5_isIn_6 (by decide) (fun z => ?_) (fun z => ?_)
  · replace h := h.1 z
    refine m_iconst (v := 0) dX5_isIn_13 (by decide) ?_
    exact m_zret hR rfl ⟨_, rfl, rfl, h⟩ dX5_isIn_14
  · replace h := h.2 z
    refine m_iconst (v := 1) dX5_isIn_9 (by decide) ?_
    refine m_goto (tgt := 14) dX5_isIn_10 (by decide) ?_
    exact m_zret hR rfl ⟨_, rfl, rfl, h⟩ dX5_isIn_14
def w_X5_leaves (S0 : St) (p1 : Int32) (p2 : Int32) (p3 : Int32) (Q : Int32 → Prop) : Prop :=
  (vp_in p1 3 ∧ (vp_in ((p2 * (11 : Int32)) + p3) 66 ∧ Q ((S0.1 41 p1.toNatClampNeg) * (S0.1 42 ((p2 * (11 : Int32)) + p3).toNatClampNeg))))
set_option maxRecDepth 100000 in
set_option maxHeartbeats 4000000 in
theorem c_X5_leaves {e : GE} {S0 : St} {p1 : Int32} {p2 : Int32} {p3 : Int32} {Q : Int32 → Prop} (h : w_X5_leaves S0 p1 p2 p3 Q) : CT e yX5_leaves cX5_leaves 4 (some .int) 1 [.ref (e.2.2.1 38), .int p1, .int p2, .int p3] S0 (pR S0 Q) := by
  refine CT.of (by decide) (Nat.le_of_ble_eq_true rfl) (fun Z hR => ?_)
  rw [w_X5_leaves] at h
  show MW Z e cX5_leaves 4 RX5 1 0 [(0, .ref (e.2.2.1 38)), (1, .int p1), (2, .int p2), (3, .int p3)] [] S0
  refine m_aload_n dX5_leaves_0 0 rfl rfl ?_
  refine m_get 38 4 (o_38 e _) rfl inlX5 (by decide) q4_23 rfl dX5_leaves_1 ?_
  refine m_iload_n dX5_leaves_4 1 rfl rfl ?_
  refine m_iald 41 (a_41 e _) h.1 dX5_leaves_5 ?_
  replace h := h.2
  refine m_aload_n dX5_leaves_6 0 rfl rfl ?_
  refine m_get 38 5 (o_38 e _) rfl inlX5 (by decide) q5_0 rfl dX5_leaves_7 ?_
  refine m_iload_n dX5_leaves_10 2 rfl rfl ?_
  refine m_bipush (v := 11) dX5_leaves_11 (by decide) ?_
  refine m_imul dX5_leaves_13 ?_
  refine m_iload_n dX5_leaves_14 3 rfl rfl ?_
  refine m_iadd dX5_leaves_15 ?_
  refine m_iald 42 (a_42 e _) h.1 dX5_leaves_16 ?_
  replace h := h.2
  refine m_imul dX5_leaves_17 ?_
  exact m_iret hR ⟨_, rfl, rfl, h⟩ dX5_leaves_18
def X5_wintersFrom_L52 (wr : St → Int32 → Int32 → Int32 → Int32 → (Int32 → Prop) → Prop) (S8 : St) (f4 : Int32) (f5 : Int32) (f6 : Int32) (f7 : Int32) (kx : Int32 → Prop) : Nat → Int32 → Int32 → Prop
  | 0 => fun _ _ => False
  | n + 1 => (fun (rec : Int32 → Int32 → Prop) => fun (v2 : Int32) (v3 : Int32) => (((10 : Int32) < v3 → kx v2) ∧ (¬ (10 : Int32) < v3 → (w_X5_leaves S8 f6 f4 v3  (fun r9 => (wr S8 f4 f5 (f6 + (1 : Int32)) (f7 - r9)  (fun r10 => ∀ x11 : Int32, x11 = v2 + r10 → ∀ x12 : Int32, x12 = v3 + (1 : Int32) → rec x11 x12))))))) (X5_wintersFrom_L52 wr S8 f4 f5 f6 f7 kx n)
def w_X5_wintersFrom : Nat → St → Int32 → Int32 → Int32 → Int32 → (Int32 → Prop) → Prop
  | 0 => fun _ _ _ _ _ _ => False
  | d + 1 => fun S0 p2 p3 p4 p5 Q => (fun (wr : St → Int32 → Int32 → Int32 → Int32 → (Int32 → Prop) → Prop) => ((0 ≤ p5 → ((p4 < (S0.1 3901 0) → (w_X5_isIn p3 p4  (fun r1 => ((¬ r1 = 0 → (∃ n : Nat, X5_wintersFrom_L52 wr S0 p2 p3 p4 p5 (fun (v14 : Int32) => Q v14) n (0 : Int32) (1 : Int32))) ∧ (r1 = 0 → (wr S0 p2 p3 (p4 + (1 : Int32)) p5  (fun r15 => Q r15))))))) ∧ (¬ p4 < (S0.1 3901 0) → ((¬ p5 = 0 → Q (0 : Int32)) ∧ (p5 = 0 → Q (1 : Int32)))))) ∧ (¬ 0 ≤ p5 → Q (0 : Int32)))) (w_X5_wintersFrom d)
set_option maxRecDepth 100000 in
set_option maxHeartbeats 4000000 in
theorem l_X5_wintersFrom_L52 {Z : Zt} {e : GE} {wr : St → Int32 → Int32 → Int32 → Int32 → (Int32 → Prop) → Prop} {S8 : St} {f4 : Int32} {f5 : Int32} {f6 : Int32} {f7 : Int32} {kx : Int32 → Prop} {d0 : Nat} (hrec : ∀ (S0 : St) (p2 : Int32) (p3 : Int32) (p4 : Int32) (p5 : Int32) (Q : Int32 → Prop), wr S0 p2 p3 p4 p5 Q → CT e yX5_wintersFrom cX5_wintersFrom 7 (some .int) (d0 + 2) [.ref (e.2.2.1 38), .int p2, .int p3, .int p4, .int p5] S0 (pR S0 Q)) (hk : ∀ (v13 : Int32), kx v13 → MW Z e cX5_wintersFrom 7 RX5 (d0 + 1 + 2) 90 [(5, .int v13)] [] S8) : ∀ (n : Nat) (v2 : Int32) (v3 : Int32), X5_wintersFrom_L52 wr S8 f4 f5 f6 f7 kx n v2 v3 → MW Z e cX5_wintersFrom 7 RX5 (d0 + 1 + 2) 52 [(0, .ref (e.2.2.1 38)), (1, .int f4), (2, .int f5), (3, .int f6), (4, .int f7), (5, .int v2), (6, .int v3)] [] S8 := by
  intro n
  induction n with
  | zero =>
    intro v2 v3 h
    exact h.elim
  | succ n ih =>
    intro v2 v3 h
    rw [X5_wintersFrom_L52] at h
    refine m_iload dX5_wintersFrom_52 6 rfl ?_
    refine m_bipush (v := 10) dX5_wintersFrom_54 (by decide) ?_
    refine m_icmp_gt (tgt := 90) dX5_wintersFrom_56 (by decide) (fun z => ?_) (fun z => ?_)
    · replace h := h.1 z
      refine m_loc [5] rfl ?_
      exact hk v2 h
    · replace h := h.2 z
      refine m_iload dX5_wintersFrom_59 5 rfl ?_
      refine m_aload_n dX5_wintersFrom_61 0 rfl rfl ?_
      refine m_iload_n dX5_wintersFrom_62 1 rfl rfl ?_
      refine m_iload_n dX5_wintersFrom_63 2 rfl rfl ?_
      refine m_iload_n dX5_wintersFrom_64 3 rfl rfl ?_
      refine m_iconst (v := 1) dX5_wintersFrom_65 (by decide) ?_
      refine m_iadd dX5_wintersFrom_66 ?_
      refine m_iload dX5_wintersFrom_67 4 rfl ?_
      refine m_aload_n dX5_wintersFrom_69 0 rfl rfl ?_
      refine m_iload_n dX5_wintersFrom_70 3 rfl rfl ?_
      refine m_iload_n dX5_wintersFrom_71 1 rfl rfl ?_
      refine m_iload dX5_wintersFrom_72 6 rfl ?_
      refine m_callV 38 [.int f6, .int f4, .int v3] (c_X5_leaves h) (o_38 e _) rfl rfl q23_6 q23_7 q23_8 q2_8 q23_9 t_X5_leaves rfl (by omega) (by decide) (Nat.le_of_ble_eq_true rfl) rfl dX5_wintersFrom_74 (kR (P := MW Z e cX5_wintersFrom 7 RX5 (d0 + 1 + 2) 77 [(0, .ref (e.2.2.1 38)), (1, .int f4), (2, .int f5), (3, .int f6), (4, .int f7), (5, .int v2), (6, .int v3)]) (fun r9 h => ?_))
      refine m_isub dX5_wintersFrom_77 ?_
      refine m_callS [.ref (e.2.2.1 38), .int f4, .int f5, .int (f6 + (1 : Int32)), .int (f7 - r9)] (hrec _ _ _ _ _ _ h) q23_0 q23_1 q2_8 q23_2 t_X5_wintersFrom rfl (by omega) (by decide) (Nat.le_of_ble_eq_true rfl) rfl dX5_wintersFrom_78 (kR (P := MW Z e cX5_wintersFrom 7 RX5 (d0 + 1 + 2) 81 [(0, .ref (e.2.2.1 38)), (1, .int f4), (2, .int f5), (3, .int f6), (4, .int f7), (5, .int v2), (6, .int v3)]) (fun r10 h => ?_))
      refine m_iadd dX5_wintersFrom_81 ?_
      refine m_topi (fun x11 ex11 => ?_)
      replace h := h x11 ex11
      refine m_istore (lv2 := [(5, .int x11), (0, .ref (e.2.2.1 38)), (1, .int f4), (2, .int f5), (3, .int f6), (4, .int f7), (6, .int v3)]) dX5_wintersFrom_82 (by decide) rfl ?_
      obtain ⟨x12, ex12⟩ : ∃ y : Int32, y = v3 + (1 : Int32) := ⟨_, rfl⟩
      replace h := h x12 ex12
      refine m_iinc (v := x12) (lv2 := [(6, .int x12), (5, .int x11), (0, .ref (e.2.2.1 38)), (1, .int f4), (2, .int f5), (3, .int f6), (4, .int f7)]) dX5_wintersFrom_84 6 rfl ex12.symm (by decide) rfl ?_
      refine m_goto (tgt := 52) dX5_wintersFrom_87 (by decide) ?_
      refine m_loc [2, 3, 4, 5, 6, 1, 0] rfl ?_
      exact ih x11 x12 h
set_option maxRecDepth 100000 in
set_option maxHeartbeats 4000000 in
theorem c_X5_wintersFrom {e : GE} : ∀ (d0 : Nat) (S0 : St) (p2 : Int32) (p3 : Int32) (p4 : Int32) (p5 : Int32) (Q : Int32 → Prop), w_X5_wintersFrom d0 S0 p2 p3 p4 p5 Q → CT e yX5_wintersFrom cX5_wintersFrom 7 (some .int) (d0 + 2) [.ref (e.2.2.1 38), .int p2, .int p3, .int p4, .int p5] S0 (pR S0 Q) := by
  intro d0
  induction d0 with
  | zero =>
    intro S0 p2 p3 p4 p5 Q h
    exact h.elim
  | succ d0 hrec =>
    intro S0 p2 p3 p4 p5 Q h
    rw [w_X5_wintersFrom] at h
    refine CT.of (by decide) (Nat.le_of_ble_eq_true rfl) (fun Z hR => ?_)
    show MW Z e cX5_wintersFrom 7 RX5 (d0 + 1 + 2) 0 [(0, .ref (e.2.2.1 38)), (1, .int p2), (2, .int p3), (3, .int p4), (4, .int p5)] [] S0
    refine m_iload dX5_wintersFrom_0 4 rfl ?_
    refine m_if_ge (tgt := 7) dX5_wintersFrom_2 (by decide) (fun z => ?_) (fun z => ?_)
    · replace h := h.1 z
      refine m_iload_n dX5_wintersFrom_7 3 rfl rfl ?_
      refine m_aload_n dX5_wintersFrom_8 0 rfl rfl ?_
      refine m_get 38 1 (o_38 e _) rfl inlX5 (by decide) q4_20 rfl dX5_wintersFrom_9 ?_
      refine m_icmp_lt (tgt := 26) dX5_wintersFrom_12 (by decide) (fun z => ?_) (fun z => ?_)
      · replace h := h.1 z
        refine m_iload_n dX5_wintersFrom_26 2 rfl rfl ?_
        refine m_iload_n dX5_wintersFrom_27 3 rfl rfl ?_
        refine m_callS [.int p3, .int p4] (c_X5_isIn h) q23_3 q23_4 q2_8 q23_5 t_X5_isIn rfl (by omega) (by decide) (Nat.le_of_ble_eq_true rfl) rfl dX5_wintersFrom_28 (kR (P := MW Z e cX5_wintersFrom 7 RX5 (d0 + 1 + 2) 31 [(0, .ref (e.2.2.1 38)), (1, .int p2), (2, .int p3), (3, .int p4), (4, .int p5)]) (fun r1 h => ?_))
        refine m_if_ne (tgt := 46) dX5_wintersFrom_31 (by decide) (fun z => ?_) (fun z => ?_)
        · replace h := h.1 z
          refine m_iconst (v := 0) dX5_wintersFrom_46 (by decide) ?_
          refine m_istore (lv2 := [(5, .int (0 : Int32)), (0, .ref (e.2.2.1 38)), (1, .int p2), (2, .int p3), (3, .int p4), (4, .int p5)]) dX5_wintersFrom_47 (by decide) rfl ?_
          refine m_iconst (v := 1) dX5_wintersFrom_49 (by decide) ?_
          refine m_istore (lv2 := [(6, .int (1 : Int32)), (5, .int (0 : Int32)), (0, .ref (e.2.2.1 38)), (1, .int p2), (2, .int p3), (3, .int p4), (4, .int p5)]) dX5_wintersFrom_50 (by decide) rfl ?_
          obtain ⟨n, h⟩ := h
          refine m_loc [2, 3, 4, 5, 6, 1, 0] rfl ?_
          refine l_X5_wintersFrom_L52 hrec (fun v14 h => ?_) n (0 : Int32) (1 : Int32) h
          refine m_iload dX5_wintersFrom_90 0 rfl ?_
          exact m_iret hR ⟨_, rfl, rfl, h⟩ dX5_wintersFrom_92
        · replace h := h.2 z
          refine m_aload_n dX5_wintersFrom_34 0 rfl rfl ?_
          refine m_iload_n dX5_wintersFrom_35 1 rfl rfl ?_
          refine m_iload_n dX5_wintersFrom_36 2 rfl rfl ?_
          refine m_iload_n dX5_wintersFrom_37 3 rfl rfl ?_
          refine m_iconst (v := 1) dX5_wintersFrom_38 (by decide) ?_
          refine m_iadd dX5_wintersFrom_39 ?_
          refine m_iload dX5_wintersFrom_40 4 rfl ?_
          refine m_callS [.ref (e.2.2.1 38), .int p2, .int p3, .int (p4 + (1 : Int32)), .int p5] (hrec _ _ _ _ _ _ h) q23_0 q23_1 q2_8 q23_2 t_X5_wintersFrom rfl (by omega) (by decide) (Nat.le_of_ble_eq_true rfl) rfl dX5_wintersFrom_42 (kR (P := MW Z e cX5_wintersFrom 7 RX5 (d0 + 1 + 2) 45 [(0, .ref (e.2.2.1 38)), (1, .int p2), (2, .int p3), (3, .int p4), (4, .int p5)]) (fun r15 h => ?_))
          exact m_iret hR ⟨_, rfl, rfl, h⟩ dX5_wintersFrom_45
      · replace h := h.2 z
        refine m_iload dX5_wintersFrom_15 4 rfl ?_
        refine m_if_ne (tgt := 24) dX5_wintersFrom_17 (by decide) (fun z => ?_) (fun z => ?_)
        · replace h := h.1 z
          refine m_iconst (v := 0) dX5_wintersFrom_24 (by decide) ?_
          exact m_iret hR ⟨_, rfl, rfl, h⟩ dX5_wintersFrom_25
        · replace h := h.2 z
          refine m_iconst (v := 1) dX5_wintersFrom_20 (by decide) ?_
          refine m_goto (tgt := 25) dX5_wintersFrom_21 (by decide) ?_
          exact m_iret hR ⟨_, rfl, rfl, h⟩ dX5_wintersFrom_25
    · replace h := h.2 z
      refine m_iconst (v := 0) dX5_wintersFrom_5 (by decide) ?_
      exact m_iret hR ⟨_, rfl, rfl, h⟩ dX5_wintersFrom_6
def X5_winters_L24 (S4 : St) (f3 : Int32) (kx : Int32 → Prop) : Nat → Int32 → Int32 → Prop
  | 0 => fun _ _ => False
  | n + 1 => (fun (rec : Int32 → Int32 → Prop) => fun (v1 : Int32) (v2 : Int32) => (((S4.1 3901 0) ≤ v2 → kx v1) ∧ (¬ (S4.1 3901 0) ≤ v2 → (w_X5_isIn f3 v2  (fun r5 => ((r5 = 0 → ∀ x6 : Int32, x6 = v1 * (1 : Int32) → ∀ x7 : Int32, x7 = v2 + (1 : Int32) → rec x6 x7) ∧ (¬ r5 = 0 → ∀ x8 : Int32, x8 = v1 * (10 : Int32) → ∀ x9 : Int32, x9 = v2 + (1 : Int32) → rec x8 x9))))))) (X5_winters_L24 S4 f3 kx n)
def w_X5_winters (S0 : St) (p1 : Int32) (p2 : Int32) (p3 : Int32) (Q : Int32 → Prop) : Prop :=
  (vp_in p1 6 ∧ (((S0.1 39 p1.toNatClampNeg) = 0 → (∃ n : Nat, X5_winters_L24 S0 p2 (fun (v11 : Int32) => Q v11) n (1 : Int32) (0 : Int32))) ∧ (¬ (S0.1 39 p1.toNatClampNeg) = 0 → (w_X5_wintersFrom 8 S0 p1 p2 (0 : Int32) p3  (fun r12 => Q r12)))))
set_option maxRecDepth 100000 in
set_option maxHeartbeats 4000000 in
theorem l_X5_winters_L24 {Z : Zt} {e : GE} {S4 : St} {f3 : Int32} {kx : Int32 → Prop} (hk : ∀ (v10 : Int32), kx v10 → MW Z e cX5_winters 6 RX5 11 59 [(4, .int v10)] [] S4) : ∀ (n : Nat) (v1 : Int32) (v2 : Int32), X5_winters_L24 S4 f3 kx n v1 v2 → MW Z e cX5_winters 6 RX5 11 24 [(0, .ref (e.2.2.1 38)), (2, .int f3), (4, .int v1), (5, .int v2)] [] S4 := by
  intro n
  induction n with
  | zero =>
    intro v1 v2 h
    exact h.elim
  | succ n ih =>
    intro v1 v2 h
    rw [X5_winters_L24] at h
    refine m_iload dX5_winters_24 3 rfl ?_
    refine m_aload_n dX5_winters_26 0 rfl rfl ?_
    refine m_get 38 1 (o_38 e _) rfl inlX5 (by decide) q4_20 rfl dX5_winters_27 ?_
    refine m_icmp_ge (tgt := 59) dX5_winters_30 (by decide) (fun z => ?_) (fun z => ?_)
    · replace h := h.1 z
      refine m_loc [2] rfl ?_
      exact hk v1 h
    · replace h := h.2 z
      refine m_iload dX5_winters_33 2 rfl ?_
      refine m_iload_n dX5_winters_35 1 rfl rfl ?_
      refine m_iload dX5_winters_36 3 rfl ?_
      refine m_callS [.int f3, .int v2] (c_X5_isIn h) q23_3 q23_4 q2_8 q23_5 t_X5_isIn rfl (by omega) (by decide) (Nat.le_of_ble_eq_true rfl) rfl dX5_winters_38 (kR (P := MW Z e cX5_winters 6 RX5 11 41 [(0, .ref (e.2.2.1 38)), (2, .int f3), (4, .int v1), (5, .int v2)]) (fun r5 h => ?_))
      refine m_if_eq (tgt := 49) dX5_winters_41 (by decide) (fun z => ?_) (fun z => ?_)
      · replace h := h.1 z
        refine m_iconst (v := 1) dX5_winters_49 (by decide) ?_
        refine m_imul dX5_winters_50 ?_
        refine m_topi (fun x6 ex6 => ?_)
        replace h := h x6 ex6
        refine m_istore (lv2 := [(4, .int x6), (0, .ref (e.2.2.1 38)), (2, .int f3), (5, .int v2)]) dX5_winters_51 (by decide) rfl ?_
        obtain ⟨x7, ex7⟩ : ∃ y : Int32, y = v2 + (1 : Int32) := ⟨_, rfl⟩
        replace h := h x7 ex7
        refine m_iinc (v := x7) (lv2 := [(5, .int x7), (4, .int x6), (0, .ref (e.2.2.1 38)), (2, .int f3)]) dX5_winters_53 3 rfl ex7.symm (by decide) rfl ?_
        refine m_goto (tgt := 24) dX5_winters_56 (by decide) ?_
        refine m_loc [2, 3, 1, 0] rfl ?_
        exact ih x6 x7 h
      · replace h := h.2 z
        refine m_bipush (v := 10) dX5_winters_44 (by decide) ?_
        refine m_goto (tgt := 50) dX5_winters_46 (by decide) ?_
        refine m_imul dX5_winters_50 ?_
        refine m_topi (fun x8 ex8 => ?_)
        replace h := h x8 ex8
        refine m_istore (lv2 := [(4, .int x8), (0, .ref (e.2.2.1 38)), (2, .int f3), (5, .int v2)]) dX5_winters_51 (by decide) rfl ?_
        obtain ⟨x9, ex9⟩ : ∃ y : Int32, y = v2 + (1 : Int32) := ⟨_, rfl⟩
        replace h := h x9 ex9
        refine m_iinc (v := x9) (lv2 := [(5, .int x9), (4, .int x8), (0, .ref (e.2.2.1 38)), (2, .int f3)]) dX5_winters_53 3 rfl ex9.symm (by decide) rfl ?_
        refine m_goto (tgt := 24) dX5_winters_56 (by decide) ?_
        refine m_loc [2, 3, 1, 0] rfl ?_
        exact ih x8 x9 h
set_option maxRecDepth 100000 in
set_option maxHeartbeats 4000000 in
theorem c_X5_winters {e : GE} {S0 : St} {p1 : Int32} {p2 : Int32} {p3 : Int32} {Q : Int32 → Prop} (h : w_X5_winters S0 p1 p2 p3 Q) : CT e yX5_winters cX5_winters 6 (some .int) 11 [.ref (e.2.2.1 38), .int p1, .int p2, .int p3] S0 (pR S0 Q) := by
  refine CT.of (by decide) (Nat.le_of_ble_eq_true rfl) (fun Z hR => ?_)
  rw [w_X5_winters] at h
  show MW Z e cX5_winters 6 RX5 11 0 [(0, .ref (e.2.2.1 38)), (1, .int p1), (2, .int p2), (3, .int p3)] [] S0
  refine m_aload_n dX5_winters_0 0 rfl rfl ?_
  refine m_get 38 2 (o_38 e _) rfl inlX5 (by decide) q4_21 rfl dX5_winters_1 ?_
  refine m_iload_n dX5_winters_4 1 rfl rfl ?_
  refine m_zald 39 (a_39 e _) h.1 dX5_winters_5 ?_
  replace h := h.2
  refine m_if_eq (tgt := 18) dX5_winters_6 (by decide) (fun z => ?_) (fun z => ?_)
  · replace h := h.1 z
    refine m_iconst (v := 1) dX5_winters_18 (by decide) ?_
    refine m_istore (lv2 := [(4, .int (1 : Int32)), (0, .ref (e.2.2.1 38)), (1, .int p1), (2, .int p2), (3, .int p3)]) dX5_winters_19 (by decide) rfl ?_
    refine m_iconst (v := 0) dX5_winters_21 (by decide) ?_
    refine m_istore (lv2 := [(5, .int (0 : Int32)), (4, .int (1 : Int32)), (0, .ref (e.2.2.1 38)), (1, .int p1), (2, .int p2), (3, .int p3)]) dX5_winters_22 (by decide) rfl ?_
    obtain ⟨n, h⟩ := h
    refine m_loc [2, 4, 1, 0] rfl ?_
    refine l_X5_winters_L24 (fun v11 h => ?_) n (1 : Int32) (0 : Int32) h
    refine m_iload dX5_winters_59 0 rfl ?_
    exact m_iret hR ⟨_, rfl, rfl, h⟩ dX5_winters_61
  · replace h := h.2 z
    refine m_aload_n dX5_winters_9 0 rfl rfl ?_
    refine m_iload_n dX5_winters_10 1 rfl rfl ?_
    refine m_iload_n dX5_winters_11 2 rfl rfl ?_
    refine m_iconst (v := 0) dX5_winters_12 (by decide) ?_
    refine m_iload_n dX5_winters_13 3 rfl rfl ?_
    refine m_callS [.ref (e.2.2.1 38), .int p1, .int p2, .int (0 : Int32), .int p3] (c_X5_wintersFrom 8 _ _ _ _ _ _ h) q23_0 q23_1 q2_8 q23_2 t_X5_wintersFrom rfl (by omega) (by decide) (Nat.le_of_ble_eq_true rfl) rfl dX5_winters_14 (kR (P := MW Z e cX5_winters 6 RX5 11 17 [(0, .ref (e.2.2.1 38)), (1, .int p1), (2, .int p2), (3, .int p3)]) (fun r12 h => ?_))
    exact m_iret hR ⟨_, rfl, rfl, h⟩ dX5_winters_17
def X5_learn_L85 (f13 : Int32) (kx : St → Prop) : Nat → St → Int32 → Prop
  | 0 => fun _ _ => False
  | n + 1 => (fun (rec : St → Int32 → Prop) => fun (S11 : St) (v12 : Int32) => (((10 : Int32) < v12 → kx S11) ∧ (¬ (10 : Int32) < v12 → (w_X2_dryYears S11 f13 (0 : Int32) (v12 - (1 : Int32))  (fun r14 => (vp_in ((f13 * (11 : Int32)) + v12) 66 ∧ ∀ S15 : St, S15 = setA S11 42 (upd (S11.1 42) ((f13 * (11 : Int32)) + v12).toNatClampNeg r14) → ∀ x16 : Int32, x16 = v12 + (1 : Int32) → rec S15 x16)))))) (X5_learn_L85 f13 kx n)
def X5_learn_L123 (f21 : Int32) (kx : St → Prop) : Nat → St → Int32 → Prop
  | 0 => fun _ _ => False
  | n + 1 => (fun (rec : St → Int32 → Prop) => fun (S19 : St) (v20 : Int32) => ((((1 : Int32) <<< ((S19.1 3901 0) &&& 31)) ≤ v20 → kx S19) ∧ (¬ ((1 : Int32) <<< ((S19.1 3901 0) &&& 31)) ≤ v20 → (vp_in f21 6 ∧ (w_X5_winters S19 f21 v20 (S19.1 40 f21.toNatClampNeg)  (fun r22 => (vp_in ((f21 * (8 : Int32)) + v20) 48 ∧ ∀ S23 : St, S23 = setA S19 43 (upd (S19.1 43) ((f21 * (8 : Int32)) + v20).toNatClampNeg r22) → ∀ x24 : Int32, x24 = v20 + (1 : Int32) → rec S23 x24))))))) (X5_learn_L123 f21 kx n)
def X5_learn_L32 (kx : St → Prop) : Nat → St → Int32 → Prop
  | 0 => fun _ _ => False
  | n + 1 => (fun (rec : St → Int32 → Prop) => fun (S4 : St) (v5 : Int32) => (((S4.1 3900 0) ≤ v5 → kx S4) ∧ (¬ (S4.1 3900 0) ≤ v5 → (vp_in v5 6 ∧ (∀ J6 : Int32 → Prop, J6 = (fun (x7 : Int32) => (vp_in v5 6 ∧ ∀ S8 : St, S8 = setA S4 39 (upd (S4.1 39) v5.toNatClampNeg (vp_nar .boolean x7)) → (vp_in v5 6 ∧ (w_X2_weather S8 v5 (9 : Int32)  (fun r9 => (vp_in v5 6 ∧ ∀ S10 : St, S10 = setA S8 40 (upd (S8.1 40) v5.toNatClampNeg ((S8.1 23 v5.toNatClampNeg) - r9)) → (∃ n : Nat, X5_learn_L85 v5 (fun (S18 : St) => (∃ n : Nat, X5_learn_L123 v5 (fun (S26 : St) => ∀ x27 : Int32, x27 = v5 + (1 : Int32) → rec S26 x27) n S18 (0 : Int32))) n S10 (1 : Int32)))))))) → (((S4.1 23 v5.toNatClampNeg) = (-9 : Int32) → J6 (0 : Int32)) ∧ (¬ (S4.1 23 v5.toNatClampNeg) = (-9 : Int32) → J6 (1 : Int32)))))))) (X5_learn_L32 kx n)
def w_X5_learn (S0 : St)  (Q : St → Prop) : Prop :=
  ∀ S1 : St, S1 = setI S0 3900 (S0.1 1200 0) → ∀ S2 : St, S2 = setI S1 3901 (S1.1 1201 0) → (∀ S3 : St, S3 = setA S2 41 (S2.1 13) → (∃ n : Nat, X5_learn_L32 (fun (S29 : St) => Q S29) n S3 (0 : Int32)))
set_option maxRecDepth 100000 in
set_option maxHeartbeats 4000000 in
theorem l_X5_learn_L85 {Z : Zt} {e : GE} {f13 : Int32} {kx : St → Prop} (hk : ∀ (S17 : St), kx S17 → MW Z e cX5_learn 5 RX5 12 120 [(0, .ref (e.2.2.1 38)), (1, .ref (e.2.2.1 11)), (2, .ref (e.2.2.1 18)), (3, .int f13)] [] S17) : ∀ (n : Nat) (S11 : St) (v12 : Int32), X5_learn_L85 f13 kx n S11 v12 → MW Z e cX5_learn 5 RX5 12 85 [(0, .ref (e.2.2.1 38)), (1, .ref (e.2.2.1 11)), (2, .ref (e.2.2.1 18)), (3, .int f13), (4, .int v12)] [] S11 := by
  intro n
  induction n with
  | zero =>
    intro S11 v12 h
    exact h.elim
  | succ n ih =>
    intro S11 v12 h
    rw [X5_learn_L85] at h
    refine m_iload dX5_learn_85 4 rfl ?_
    refine m_bipush (v := 10) dX5_learn_87 (by decide) ?_
    refine m_icmp_gt (tgt := 120) dX5_learn_89 (by decide) (fun z => ?_) (fun z => ?_)
    · replace h := h.1 z
      refine m_loc [0, 1, 2, 3] rfl ?_
      exact hk S11 h
    · replace h := h.2 z
      refine m_aload_n dX5_learn_92 0 rfl rfl ?_
      refine m_get 38 5 (o_38 e _) rfl inlX5 (by decide) q5_0 rfl dX5_learn_93 ?_
      refine m_iload_n dX5_learn_96 3 rfl rfl ?_
      refine m_bipush (v := 11) dX5_learn_97 (by decide) ?_
      refine m_imul dX5_learn_99 ?_
      refine m_iload dX5_learn_100 4 rfl ?_
      refine m_iadd dX5_learn_102 ?_
      refine m_aload_n dX5_learn_103 1 rfl rfl ?_
      refine m_iload_n dX5_learn_104 3 rfl rfl ?_
      refine m_iconst (v := 0) dX5_learn_105 (by decide) ?_
      refine m_iload dX5_learn_106 4 rfl ?_
      refine m_iconst (v := 1) dX5_learn_108 (by decide) ?_
      refine m_isub dX5_learn_109 ?_
      refine m_callV 11 [.int f13, .int (0 : Int32), .int (v12 - (1 : Int32))] (c_X2_dryYears h) (o_11 e _) rfl rfl q22_19 q20_12 q20_13 q1_21 q20_14 t_X2_dryYears rfl (by omega) (by decide) (Nat.le_of_ble_eq_true rfl) rfl dX5_learn_110 (kR (P := MW Z e cX5_learn 5 RX5 12 113 [(0, .ref (e.2.2.1 38)), (1, .ref (e.2.2.1 11)), (2, .ref (e.2.2.1 18)), (3, .int f13), (4, .int v12)]) (fun r14 h => ?_))
      refine m_iast 42 (a_42 e _) (aw_42 e _) h.1 dX5_learn_113 (fun S15 eS15 => ?_)
      replace h := h.2 S15 eS15
      obtain ⟨x16, ex16⟩ : ∃ y : Int32, y = v12 + (1 : Int32) := ⟨_, rfl⟩
      replace h := h x16 ex16
      refine m_iinc (v := x16) (lv2 := [(4, .int x16), (0, .ref (e.2.2.1 38)), (1, .ref (e.2.2.1 11)), (2, .ref (e.2.2.1 18)), (3, .int f13)]) dX5_learn_114 4 rfl ex16.symm (by decide) rfl ?_
      refine m_goto (tgt := 85) dX5_learn_117 (by decide) ?_
      refine m_loc [1, 2, 3, 4, 0] rfl ?_
      exact ih S15 x16 h
set_option maxRecDepth 100000 in
set_option maxHeartbeats 4000000 in
theorem l_X5_learn_L123 {Z : Zt} {e : GE} {f21 : Int32} {kx : St → Prop} (hk : ∀ (S25 : St), kx S25 → MW Z e cX5_learn 5 RX5 12 165 [(0, .ref (e.2.2.1 38)), (1, .ref (e.2.2.1 11)), (2, .ref (e.2.2.1 18)), (3, .int f21)] [] S25) : ∀ (n : Nat) (S19 : St) (v20 : Int32), X5_learn_L123 f21 kx n S19 v20 → MW Z e cX5_learn 5 RX5 12 123 [(0, .ref (e.2.2.1 38)), (1, .ref (e.2.2.1 11)), (2, .ref (e.2.2.1 18)), (3, .int f21), (4, .int v20)] [] S19 := by
  intro n
  induction n with
  | zero =>
    intro S19 v20 h
    exact h.elim
  | succ n ih =>
    intro S19 v20 h
    rw [X5_learn_L123] at h
    refine m_iload dX5_learn_123 4 rfl ?_
    refine m_iconst (v := 1) dX5_learn_125 (by decide) ?_
    refine m_aload_n dX5_learn_126 0 rfl rfl ?_
    refine m_get 38 1 (o_38 e _) rfl inlX5 (by decide) q4_20 rfl dX5_learn_127 ?_
    refine m_ishl dX5_learn_130 ?_
    refine m_icmp_ge (tgt := 165) dX5_learn_131 (by decide) (fun z => ?_) (fun z => ?_)
    · replace h := h.1 z
      refine m_loc [0, 1, 2, 3] rfl ?_
      exact hk S19 h
    · replace h := h.2 z
      refine m_aload_n dX5_learn_134 0 rfl rfl ?_
      refine m_get 38 6 (o_38 e _) rfl inlX5 (by decide) q5_1 rfl dX5_learn_135 ?_
      refine m_iload_n dX5_learn_138 3 rfl rfl ?_
      refine m_bipush (v := 8) dX5_learn_139 (by decide) ?_
      refine m_imul dX5_learn_141 ?_
      refine m_iload dX5_learn_142 4 rfl ?_
      refine m_iadd dX5_learn_144 ?_
      refine m_aload_n dX5_learn_145 0 rfl rfl ?_
      refine m_iload_n dX5_learn_146 3 rfl rfl ?_
      refine m_iload dX5_learn_147 4 rfl ?_
      refine m_aload_n dX5_learn_149 0 rfl rfl ?_
      refine m_get 38 3 (o_38 e _) rfl inlX5 (by decide) q4_22 rfl dX5_learn_150 ?_
      refine m_iload_n dX5_learn_153 3 rfl rfl ?_
      refine m_iald 40 (a_40 e _) h.1 dX5_learn_154 ?_
      replace h := h.2
      refine m_callV 38 [.int f21, .int v20, .int (S19.1 40 f21.toNatClampNeg)] (c_X5_winters h) (o_38 e _) rfl rfl q22_20 q22_21 q22_22 q2_8 q22_23 t_X5_winters rfl (by omega) (by decide) (Nat.le_of_ble_eq_true rfl) rfl dX5_learn_155 (kR (P := MW Z e cX5_learn 5 RX5 12 158 [(0, .ref (e.2.2.1 38)), (1, .ref (e.2.2.1 11)), (2, .ref (e.2.2.1 18)), (3, .int f21), (4, .int v20)]) (fun r22 h => ?_))
      refine m_iast 43 (a_43 e _) (aw_43 e _) h.1 dX5_learn_158 (fun S23 eS23 => ?_)
      replace h := h.2 S23 eS23
      obtain ⟨x24, ex24⟩ : ∃ y : Int32, y = v20 + (1 : Int32) := ⟨_, rfl⟩
      replace h := h x24 ex24
      refine m_iinc (v := x24) (lv2 := [(4, .int x24), (0, .ref (e.2.2.1 38)), (1, .ref (e.2.2.1 11)), (2, .ref (e.2.2.1 18)), (3, .int f21)]) dX5_learn_159 4 rfl ex24.symm (by decide) rfl ?_
      refine m_goto (tgt := 123) dX5_learn_162 (by decide) ?_
      refine m_loc [1, 2, 3, 4, 0] rfl ?_
      exact ih S23 x24 h
set_option maxRecDepth 100000 in
set_option maxHeartbeats 4000000 in
theorem l_X5_learn_L32 {Z : Zt} {e : GE} {kx : St → Prop} (hk : ∀ (S28 : St), kx S28 → MW Z e cX5_learn 5 RX5 12 171 [] [] S28) : ∀ (n : Nat) (S4 : St) (v5 : Int32), X5_learn_L32 kx n S4 v5 → MW Z e cX5_learn 5 RX5 12 32 [(0, .ref (e.2.2.1 38)), (1, .ref (e.2.2.1 11)), (2, .ref (e.2.2.1 18)), (3, .int v5)] [] S4 := by
  intro n
  induction n with
  | zero =>
    intro S4 v5 h
    exact h.elim
  | succ n ih =>
    intro S4 v5 h
    rw [X5_learn_L32] at h
    refine m_iload_n dX5_learn_32 3 rfl rfl ?_
    refine m_aload_n dX5_learn_33 0 rfl rfl ?_
    refine m_get 38 0 (o_38 e _) rfl inlX5 (by decide) q4_19 rfl dX5_learn_34 ?_
    refine m_icmp_ge (tgt := 171) dX5_learn_37 (by decide) (fun z => ?_) (fun z => ?_)
    · replace h := h.1 z
      refine m_loc [] rfl ?_
      exact hk S4 h
    · replace h := h.2 z
      refine m_aload_n dX5_learn_40 0 rfl rfl ?_
      refine m_get 38 2 (o_38 e _) rfl inlX5 (by decide) q4_21 rfl dX5_learn_41 ?_
      refine m_iload_n dX5_learn_44 3 rfl rfl ?_
      refine m_aload_n dX5_learn_45 2 rfl rfl ?_
      refine m_get 18 5 (o_18 e _) rfl inlX1 (by decide) q22_17 rfl dX5_learn_46 ?_
      refine m_iload_n dX5_learn_49 3 rfl rfl ?_
      refine m_iald 23 (a_23 e _) h.1 dX5_learn_50 ?_
      replace h := h.2
      refine m_bipush (v := -9) dX5_learn_51 (by decide) ?_
      obtain ⟨J6, eJ6, h⟩ := jn h
      have kJ6 : ∀ (x7 : Int32), J6 x7 → MW Z e cX5_learn 5 RX5 12 61 [(0, .ref (e.2.2.1 38)), (1, .ref (e.2.2.1 11)), (2, .ref (e.2.2.1 18)), (3, .int v5)] [.int x7, .int v5, .ref (e.2.2.1 39)] S4 := by
        intro x7 h
        rw [eJ6] at h
        refine m_zast 39 (a_39 e _) (aw_39 e _) h.1 dX5_learn_61 (fun S8 eS8 => ?_)
        replace h := h.2 S8 eS8
        refine m_aload_n dX5_learn_62 0 rfl rfl ?_
        refine m_get 38 3 (o_38 e _) rfl inlX5 (by decide) q4_22 rfl dX5_learn_63 ?_
        refine m_iload_n dX5_learn_66 3 rfl rfl ?_
        refine m_aload_n dX5_learn_67 2 rfl rfl ?_
        refine m_get 18 5 (o_18 e _) rfl inlX1 (by decide) q22_17 rfl dX5_learn_68 ?_
        refine m_iload_n dX5_learn_71 3 rfl rfl ?_
        refine m_iald 23 (a_23 e _) h.1 dX5_learn_72 ?_
        replace h := h.2
        refine m_aload_n dX5_learn_73 1 rfl rfl ?_
        refine m_iload_n dX5_learn_74 3 rfl rfl ?_
        refine m_bipush (v := 9) dX5_learn_75 (by decide) ?_
        refine m_callV 11 [.int v5, .int (9 : Int32)] (c_X2_weather h) (o_11 e _) rfl rfl q22_18 q20_7 q20_8 q1_21 q20_9 t_X2_weather rfl (by omega) (by decide) (Nat.le_of_ble_eq_true rfl) rfl dX5_learn_77 (kR (P := MW Z e cX5_learn 5 RX5 12 80 [(0, .ref (e.2.2.1 38)), (1, .ref (e.2.2.1 11)), (2, .ref (e.2.2.1 18)), (3, .int v5)]) (fun r9 h => ?_))
        refine m_isub dX5_learn_80 ?_
        refine m_iast 40 (a_40 e _) (aw_40 e _) h.1 dX5_learn_81 (fun S10 eS10 => ?_)
        replace h := h.2 S10 eS10
        refine m_iconst (v := 1) dX5_learn_82 (by decide) ?_
        refine m_istore (lv2 := [(4, .int (1 : Int32)), (0, .ref (e.2.2.1 38)), (1, .ref (e.2.2.1 11)), (2, .ref (e.2.2.1 18)), (3, .int v5)]) dX5_learn_83 (by decide) rfl ?_
        obtain ⟨n, h⟩ := h
        refine m_loc [1, 2, 3, 4, 0] rfl ?_
        refine l_X5_learn_L85 (fun S18 h => ?_) n S10 (1 : Int32) h
        refine m_iconst (v := 0) dX5_learn_120 (by decide) ?_
        refine m_istore (lv2 := [(4, .int (0 : Int32)), (0, .ref (e.2.2.1 38)), (1, .ref (e.2.2.1 11)), (2, .ref (e.2.2.1 18)), (3, .int v5)]) dX5_learn_121 (by decide) rfl ?_
        obtain ⟨n, h⟩ := h
        refine m_loc [1, 2, 3, 4, 0] rfl ?_
        refine l_X5_learn_L123 (fun S26 h => ?_) n S18 (0 : Int32) h
        obtain ⟨x27, ex27⟩ : ∃ y : Int32, y = v5 + (1 : Int32) := ⟨_, rfl⟩
        replace h := h x27 ex27
        refine m_iinc (v := x27) (lv2 := [(3, .int x27), (0, .ref (e.2.2.1 38)), (1, .ref (e.2.2.1 11)), (2, .ref (e.2.2.1 18))]) dX5_learn_165 3 rfl ex27.symm (by decide) rfl ?_
        refine m_goto (tgt := 32) dX5_learn_168 (by decide) ?_
        refine m_loc [1, 2, 3, 0] rfl ?_
        exact ih S26 x27 h
      refine m_icmp_eq (tgt := 60) dX5_learn_53 (by decide) (fun z => ?_) (fun z => ?_)
      · replace h := h.1 z
        refine m_iconst (v := 0) dX5_learn_60 (by decide) ?_
        exact kJ6 (0 : Int32) h
      · replace h := h.2 z
        refine m_iconst (v := 1) dX5_learn_56 (by decide) ?_
        refine m_goto (tgt := 61) dX5_learn_57 (by decide) ?_
        exact kJ6 (1 : Int32) h
set_option maxRecDepth 100000 in
set_option maxHeartbeats 4000000 in
theorem c_X5_learn {e : GE} {S0 : St}  {Q : St → Prop} (h : w_X5_learn S0  Q) : CT e yX5_learn cX5_learn 5 none 12 [.ref (e.2.2.1 38), .ref (e.2.2.1 11), .ref (e.2.2.1 18)] S0 (pV Q) := by
  refine CT.of (by decide) (Nat.le_of_ble_eq_true rfl) (fun Z hR => ?_)
  rw [w_X5_learn] at h
  show MW Z e cX5_learn 5 RX5 12 0 [(0, .ref (e.2.2.1 38)), (1, .ref (e.2.2.1 11)), (2, .ref (e.2.2.1 18))] [] S0
  refine m_aload_n dX5_learn_0 0 rfl rfl ?_
  refine m_aload_n dX5_learn_1 1 rfl rfl ?_
  refine m_get 11 0 (o_11 e _) rfl inlX2 (by decide) q22_13 rfl dX5_learn_2 ?_
  refine m_put (S2 := setI S0 3900 (S0.1 1200 0)) 38 0 tyX5 tyX5_ok nmX5 (o_38 e _) rfl inlX5 (by decide) q4_19 rfl (tyX5_ok 0 (by decide)) rfl rfl (Nat.le_of_ble_eq_true rfl) (p_38_0 e _ _) dX5_learn_5 (fun S1 eS1 => ?_)
  replace h := h S1 eS1
  refine m_aload_n dX5_learn_8 0 rfl rfl ?_
  refine m_aload_n dX5_learn_9 1 rfl rfl ?_
  refine m_get 11 1 (o_11 e _) rfl inlX2 (by decide) q22_14 rfl dX5_learn_10 ?_
  refine m_put (S2 := setI S1 3901 (S1.1 1201 0)) 38 1 tyX5 tyX5_ok nmX5 (o_38 e _) rfl inlX5 (by decide) q4_20 rfl (tyX5_ok 1 (by decide)) rfl rfl (Nat.le_of_ble_eq_true rfl) (p_38_1 e _ _) dX5_learn_13 (fun S2 eS2 => ?_)
  replace h := h S2 eS2
  refine m_aload_n dX5_learn_16 1 rfl rfl ?_
  refine m_get 11 4 (o_11 e _) rfl inlX2 (by decide) q22_15 rfl dX5_learn_17 ?_
  refine m_iconst (v := 0) dX5_learn_20 (by decide) ?_
  refine m_aload_n dX5_learn_21 0 rfl rfl ?_
  refine m_get 38 4 (o_38 e _) rfl inlX5 (by decide) q4_23 rfl dX5_learn_22 ?_
  refine m_iconst (v := 0) dX5_learn_25 (by decide) ?_
  refine m_iconst (v := 3) dX5_learn_26 (by decide) ?_
  refine m_copy (S2 := setA S2 41 (S2.1 13)) 13 41 q22_16 q15_4 q15_5 q15_6 (a_13 e _) (a_41 e _) (by decide) (by decide) (by decide) (aw_41 e _ _) (by omega) (Nat.le_of_ble_eq_true rfl) dX5_learn_27 (fun S3 eS3 => ?_)
  replace h := h S3 eS3
  refine m_iconst (v := 0) dX5_learn_30 (by decide) ?_
  refine m_istore_n (lv2 := [(3, .int (0 : Int32)), (0, .ref (e.2.2.1 38)), (1, .ref (e.2.2.1 11)), (2, .ref (e.2.2.1 18))]) dX5_learn_31 rfl (by decide) rfl ?_
  obtain ⟨n, h⟩ := h
  refine m_loc [1, 2, 3, 0] rfl ?_
  refine l_X5_learn_L32 (fun S29 h => ?_) n S3 (0 : Int32) h
  exact m_vret hR ⟨rfl, h⟩ dX5_learn_171
def X5_gatherBar_L18 (S9 : St) (f7 : Int32) (f8 : Int32) (kx : Int32 → Prop) : Nat → Int32 → Int32 → Prop
  | 0 => fun _ _ => False
  | n + 1 => (fun (rec : Int32 → Int32 → Prop) => fun (v5 : Int32) (v6 : Int32) => ((f8 < v6 → kx v5) ∧ (¬ f8 < v6 → ((¬ (v6 &&& (f8 ^^^ (-1 : Int32))) = 0 → ∀ x10 : Int32, x10 = v6 + (1 : Int32) → rec v5 x10) ∧ ((v6 &&& (f8 ^^^ (-1 : Int32))) = 0 → (vp_in ((f7 * (8 : Int32)) + v6) 48 ∧ (vp_in (f8 ^^^ v6) 8 ∧ ∀ x11 : Int32, x11 = v5 + ((S9.1 43 ((f7 * (8 : Int32)) + v6).toNatClampNeg) * (S9.1 44 (f8 ^^^ v6).toNatClampNeg)) → ∀ x12 : Int32, x12 = v6 + (1 : Int32) → rec x11 x12))))))) (X5_gatherBar_L18 S9 f7 f8 kx n)
def X5_gatherBar_L9 (f4 : Int32) (kx : St → Prop) : Nat → St → Int32 → Prop
  | 0 => fun _ _ => False
  | n + 1 => (fun (rec : St → Int32 → Prop) => fun (S2 : St) (v3 : Int32) => ((v3 < 0 → kx S2) ∧ (¬ v3 < 0 → (∃ n : Nat, X5_gatherBar_L18 S2 f4 v3 (fun (v14 : Int32) => (vp_in v3 8 ∧ ∀ S15 : St, S15 = setA S2 44 (upd (S2.1 44) v3.toNatClampNeg v14) → ∀ x16 : Int32, x16 = v3 + (-1 : Int32) → rec S15 x16)) n (0 : Int32) (0 : Int32))))) (X5_gatherBar_L9 f4 kx n)
def w_X5_gatherBar (S0 : St) (p1 : Int32) (Q : St → Prop) : Prop :=
  ∀ x1 : Int32, x1 = ((1 : Int32) <<< ((S0.1 3901 0) &&& 31)) - (1 : Int32) → (∃ n : Nat, X5_gatherBar_L9 p1 (fun (S18 : St) => Q S18) n S0 x1)
set_option maxRecDepth 100000 in
set_option maxHeartbeats 4000000 in
theorem l_X5_gatherBar_L18 {Z : Zt} {e : GE} {S9 : St} {f7 : Int32} {f8 : Int32} {kx : Int32 → Prop} (hk : ∀ (v13 : Int32), kx v13 → MW Z e cX5_gatherBar 5 RX5 1 64 [(0, .ref (e.2.2.1 38)), (1, .int f7), (2, .int f8), (3, .int v13)] [] S9) : ∀ (n : Nat) (v5 : Int32) (v6 : Int32), X5_gatherBar_L18 S9 f7 f8 kx n v5 v6 → MW Z e cX5_gatherBar 5 RX5 1 18 [(0, .ref (e.2.2.1 38)), (1, .int f7), (2, .int f8), (3, .int v5), (4, .int v6)] [] S9 := by
  intro n
  induction n with
  | zero =>
    intro v5 v6 h
    exact h.elim
  | succ n ih =>
    intro v5 v6 h
    rw [X5_gatherBar_L18] at h
    refine m_iload dX5_gatherBar_18 4 rfl ?_
    refine m_iload_n dX5_gatherBar_20 2 rfl rfl ?_
    refine m_icmp_gt (tgt := 64) dX5_gatherBar_21 (by decide) (fun z => ?_) (fun z => ?_)
    · replace h := h.1 z
      refine m_loc [0, 1, 2, 3] rfl ?_
      exact hk v5 h
    · replace h := h.2 z
      refine m_iload dX5_gatherBar_24 4 rfl ?_
      refine m_iload_n dX5_gatherBar_26 2 rfl rfl ?_
      refine m_iconst (v := -1) dX5_gatherBar_27 (by decide) ?_
      refine m_ixor dX5_gatherBar_28 ?_
      refine m_iand dX5_gatherBar_29 ?_
      refine m_if_ne (tgt := 58) dX5_gatherBar_30 (by decide) (fun z => ?_) (fun z => ?_)
      · replace h := h.1 z
        obtain ⟨x10, ex10⟩ : ∃ y : Int32, y = v6 + (1 : Int32) := ⟨_, rfl⟩
        replace h := h x10 ex10
        refine m_iinc (v := x10) (lv2 := [(4, .int x10), (0, .ref (e.2.2.1 38)), (1, .int f7), (2, .int f8), (3, .int v5)]) dX5_gatherBar_58 4 rfl ex10.symm (by decide) rfl ?_
        refine m_goto (tgt := 18) dX5_gatherBar_61 (by decide) ?_
        refine m_loc [1, 2, 3, 4, 0] rfl ?_
        exact ih v5 x10 h
      · replace h := h.2 z
        refine m_iload_n dX5_gatherBar_33 3 rfl rfl ?_
        refine m_aload_n dX5_gatherBar_34 0 rfl rfl ?_
        refine m_get 38 6 (o_38 e _) rfl inlX5 (by decide) q5_1 rfl dX5_gatherBar_35 ?_
        refine m_iload_n dX5_gatherBar_38 1 rfl rfl ?_
        refine m_bipush (v := 8) dX5_gatherBar_39 (by decide) ?_
        refine m_imul dX5_gatherBar_41 ?_
        refine m_iload dX5_gatherBar_42 4 rfl ?_
        refine m_iadd dX5_gatherBar_44 ?_
        refine m_iald 43 (a_43 e _) h.1 dX5_gatherBar_45 ?_
        replace h := h.2
        refine m_aload_n dX5_gatherBar_46 0 rfl rfl ?_
        refine m_get 38 7 (o_38 e _) rfl inlX5 (by decide) q5_2 rfl dX5_gatherBar_47 ?_
        refine m_iload_n dX5_gatherBar_50 2 rfl rfl ?_
        refine m_iload dX5_gatherBar_51 4 rfl ?_
        refine m_ixor dX5_gatherBar_53 ?_
        refine m_iald 44 (a_44 e _) h.1 dX5_gatherBar_54 ?_
        replace h := h.2
        refine m_imul dX5_gatherBar_55 ?_
        refine m_iadd dX5_gatherBar_56 ?_
        refine m_topi (fun x11 ex11 => ?_)
        replace h := h x11 ex11
        refine m_istore_n (lv2 := [(3, .int x11), (0, .ref (e.2.2.1 38)), (1, .int f7), (2, .int f8), (4, .int v6)]) dX5_gatherBar_57 rfl (by decide) rfl ?_
        obtain ⟨x12, ex12⟩ : ∃ y : Int32, y = v6 + (1 : Int32) := ⟨_, rfl⟩
        replace h := h x12 ex12
        refine m_iinc (v := x12) (lv2 := [(4, .int x12), (3, .int x11), (0, .ref (e.2.2.1 38)), (1, .int f7), (2, .int f8)]) dX5_gatherBar_58 4 rfl ex12.symm (by decide) rfl ?_
        refine m_goto (tgt := 18) dX5_gatherBar_61 (by decide) ?_
        refine m_loc [2, 3, 4, 1, 0] rfl ?_
        exact ih x11 x12 h
set_option maxRecDepth 100000 in
set_option maxHeartbeats 4000000 in
theorem l_X5_gatherBar_L9 {Z : Zt} {e : GE} {f4 : Int32} {kx : St → Prop} (hk : ∀ (S17 : St), kx S17 → MW Z e cX5_gatherBar 5 RX5 1 77 [] [] S17) : ∀ (n : Nat) (S2 : St) (v3 : Int32), X5_gatherBar_L9 f4 kx n S2 v3 → MW Z e cX5_gatherBar 5 RX5 1 9 [(0, .ref (e.2.2.1 38)), (1, .int f4), (2, .int v3)] [] S2 := by
  intro n
  induction n with
  | zero =>
    intro S2 v3 h
    exact h.elim
  | succ n ih =>
    intro S2 v3 h
    rw [X5_gatherBar_L9] at h
    refine m_iload_n dX5_gatherBar_9 2 rfl rfl ?_
    refine m_if_lt (tgt := 77) dX5_gatherBar_10 (by decide) (fun z => ?_) (fun z => ?_)
    · replace h := h.1 z
      refine m_loc [] rfl ?_
      exact hk S2 h
    · replace h := h.2 z
      refine m_iconst (v := 0) dX5_gatherBar_13 (by decide) ?_
      refine m_istore_n (lv2 := [(3, .int (0 : Int32)), (0, .ref (e.2.2.1 38)), (1, .int f4), (2, .int v3)]) dX5_gatherBar_14 rfl (by decide) rfl ?_
      refine m_iconst (v := 0) dX5_gatherBar_15 (by decide) ?_
      refine m_istore (lv2 := [(4, .int (0 : Int32)), (3, .int (0 : Int32)), (0, .ref (e.2.2.1 38)), (1, .int f4), (2, .int v3)]) dX5_gatherBar_16 (by decide) rfl ?_
      obtain ⟨n, h⟩ := h
      refine m_loc [2, 3, 4, 1, 0] rfl ?_
      refine l_X5_gatherBar_L18 (fun v14 h => ?_) n (0 : Int32) (0 : Int32) h
      refine m_aload_n dX5_gatherBar_64 0 rfl rfl ?_
      refine m_get 38 7 (o_38 e _) rfl inlX5 (by decide) q5_2 rfl dX5_gatherBar_65 ?_
      refine m_iload_n dX5_gatherBar_68 2 rfl rfl ?_
      refine m_iload_n dX5_gatherBar_69 3 rfl rfl ?_
      refine m_iast 44 (a_44 e _) (aw_44 e _) h.1 dX5_gatherBar_70 (fun S15 eS15 => ?_)
      replace h := h.2 S15 eS15
      obtain ⟨x16, ex16⟩ : ∃ y : Int32, y = v3 + (-1 : Int32) := ⟨_, rfl⟩
      replace h := h x16 ex16
      refine m_iinc (v := x16) (lv2 := [(2, .int x16), (0, .ref (e.2.2.1 38)), (1, .int f4), (3, .int v14)]) dX5_gatherBar_71 2 rfl ex16.symm (by decide) rfl ?_
      refine m_goto (tgt := 9) dX5_gatherBar_74 (by decide) ?_
      refine m_loc [1, 2, 0] rfl ?_
      exact ih S15 x16 h
set_option maxRecDepth 100000 in
set_option maxHeartbeats 4000000 in
theorem c_X5_gatherBar {e : GE} {S0 : St} {p1 : Int32} {Q : St → Prop} (h : w_X5_gatherBar S0 p1 Q) : CT e yX5_gatherBar cX5_gatherBar 5 none 1 [.ref (e.2.2.1 38), .int p1] S0 (pV Q) := by
  refine CT.of (by decide) (Nat.le_of_ble_eq_true rfl) (fun Z hR => ?_)
  rw [w_X5_gatherBar] at h
  show MW Z e cX5_gatherBar 5 RX5 1 0 [(0, .ref (e.2.2.1 38)), (1, .int p1)] [] S0
  refine m_iconst (v := 1) dX5_gatherBar_0 (by decide) ?_
  refine m_aload_n dX5_gatherBar_1 0 rfl rfl ?_
  refine m_get 38 1 (o_38 e _) rfl inlX5 (by decide) q4_20 rfl dX5_gatherBar_2 ?_
  refine m_ishl dX5_gatherBar_5 ?_
  refine m_iconst (v := 1) dX5_gatherBar_6 (by decide) ?_
  refine m_isub dX5_gatherBar_7 ?_
  refine m_topi (fun x1 ex1 => ?_)
  replace h := h x1 ex1
  refine m_istore_n (lv2 := [(2, .int x1), (0, .ref (e.2.2.1 38)), (1, .int p1)]) dX5_gatherBar_8 rfl (by decide) rfl ?_
  obtain ⟨n, h⟩ := h
  refine m_loc [1, 2, 0] rfl ?_
  refine l_X5_gatherBar_L9 (fun S18 h => ?_) n S0 x1 h
  exact m_vret hR ⟨rfl, h⟩ dX5_gatherBar_77
def X5_gather_L17 (f5 : Int32) (kx : St → Prop) : Nat → St → Int32 → Prop
  | 0 => fun _ _ => False
  | n + 1 => (fun (rec : St → Int32 → Prop) => fun (S3 : St) (v4 : Int32) => (((S3.1 3900 0) ≤ v4 → kx S3) ∧ (¬ (S3.1 3900 0) ≤ v4 → ((v4 = f5 → ∀ x6 : Int32, x6 = v4 + (1 : Int32) → rec S3 x6) ∧ (¬ v4 = f5 → (w_X5_gatherBar S3 v4  (fun S7 => ∀ x8 : Int32, x8 = v4 + (1 : Int32) → rec S7 x8))))))) (X5_gather_L17 f5 kx n)
def w_X5_gather (S0 : St) (p1 : Int32) (Q : St → Prop) : Prop :=
  (∀ S1 : St, S1 = setA S0 44 (fun _ => (0 : Int32)) → (vp_in (0 : Int32) 8 ∧ ∀ S2 : St, S2 = setA S1 44 (upd (S1.1 44) (0 : Int32).toNatClampNeg (1 : Int32)) → (∃ n : Nat, X5_gather_L17 p1 (fun (S10 : St) => Q S10) n S2 (0 : Int32))))
set_option maxRecDepth 100000 in
set_option maxHeartbeats 4000000 in
theorem l_X5_gather_L17 {Z : Zt} {e : GE} {f5 : Int32} {kx : St → Prop} (hk : ∀ (S9 : St), kx S9 → MW Z e cX5_gather 3 RX5 4 41 [] [] S9) : ∀ (n : Nat) (S3 : St) (v4 : Int32), X5_gather_L17 f5 kx n S3 v4 → MW Z e cX5_gather 3 RX5 4 17 [(0, .ref (e.2.2.1 38)), (1, .int f5), (2, .int v4)] [] S3 := by
  intro n
  induction n with
  | zero =>
    intro S3 v4 h
    exact h.elim
  | succ n ih =>
    intro S3 v4 h
    rw [X5_gather_L17] at h
    refine m_iload_n dX5_gather_17 2 rfl rfl ?_
    refine m_aload_n dX5_gather_18 0 rfl rfl ?_
    refine m_get 38 0 (o_38 e _) rfl inlX5 (by decide) q4_19 rfl dX5_gather_19 ?_
    refine m_icmp_ge (tgt := 41) dX5_gather_22 (by decide) (fun z => ?_) (fun z => ?_)
    · replace h := h.1 z
      refine m_loc [] rfl ?_
      exact hk S3 h
    · replace h := h.2 z
      refine m_iload_n dX5_gather_25 2 rfl rfl ?_
      refine m_iload_n dX5_gather_26 1 rfl rfl ?_
      refine m_icmp_eq (tgt := 35) dX5_gather_27 (by decide) (fun z => ?_) (fun z => ?_)
      · replace h := h.1 z
        obtain ⟨x6, ex6⟩ : ∃ y : Int32, y = v4 + (1 : Int32) := ⟨_, rfl⟩
        replace h := h x6 ex6
        refine m_iinc (v := x6) (lv2 := [(2, .int x6), (0, .ref (e.2.2.1 38)), (1, .int f5)]) dX5_gather_35 2 rfl ex6.symm (by decide) rfl ?_
        refine m_goto (tgt := 17) dX5_gather_38 (by decide) ?_
        refine m_loc [1, 2, 0] rfl ?_
        exact ih S3 x6 h
      · replace h := h.2 z
        refine m_aload_n dX5_gather_30 0 rfl rfl ?_
        refine m_iload_n dX5_gather_31 2 rfl rfl ?_
        refine m_callV 38 [.int v4] (c_X5_gatherBar h) (o_38 e _) rfl rfl q23_19 q23_20 q23_21 q2_8 q23_22 t_X5_gatherBar rfl (by omega) (by decide) (Nat.le_of_ble_eq_true rfl) rfl dX5_gather_32 (kV (P := MW Z e cX5_gather 3 RX5 4 35 [(0, .ref (e.2.2.1 38)), (1, .int f5), (2, .int v4)]) (fun S7 h => ?_))
        obtain ⟨x8, ex8⟩ : ∃ y : Int32, y = v4 + (1 : Int32) := ⟨_, rfl⟩
        replace h := h x8 ex8
        refine m_iinc (v := x8) (lv2 := [(2, .int x8), (0, .ref (e.2.2.1 38)), (1, .int f5)]) dX5_gather_35 2 rfl ex8.symm (by decide) rfl ?_
        refine m_goto (tgt := 17) dX5_gather_38 (by decide) ?_
        refine m_loc [1, 2, 0] rfl ?_
        exact ih S7 x8 h
set_option maxRecDepth 100000 in
set_option maxHeartbeats 4000000 in
theorem c_X5_gather {e : GE} {S0 : St} {p1 : Int32} {Q : St → Prop} (h : w_X5_gather S0 p1 Q) : CT e yX5_gather cX5_gather 3 none 4 [.ref (e.2.2.1 38), .int p1] S0 (pV Q) := by
  refine CT.of (by decide) (Nat.le_of_ble_eq_true rfl) (fun Z hR => ?_)
  rw [w_X5_gather] at h
  show MW Z e cX5_gather 3 RX5 4 0 [(0, .ref (e.2.2.1 38)), (1, .int p1)] [] S0
  refine m_aload_n dX5_gather_0 0 rfl rfl ?_
  refine m_get 38 7 (o_38 e _) rfl inlX5 (by decide) q5_2 rfl dX5_gather_1 ?_
  refine m_iconst (v := 0) dX5_gather_4 (by decide) ?_
  refine m_callS [.ref (e.2.2.1 44), .int (0 : Int32)] c_fill_44 q23_18 q4_1 q4_2 q4_3 t_fill rfl (by omega) (by decide) (Nat.le_of_ble_eq_true rfl) rfl dX5_gather_5 (kV (P := MW Z e cX5_gather 3 RX5 4 8 [(0, .ref (e.2.2.1 38)), (1, .int p1)]) (fun S1 eS1 => ?_))
  replace h := h S1 eS1
  refine m_aload_n dX5_gather_8 0 rfl rfl ?_
  refine m_get 38 7 (o_38 e _) rfl inlX5 (by decide) q5_2 rfl dX5_gather_9 ?_
  refine m_iconst (v := 0) dX5_gather_12 (by decide) ?_
  refine m_iconst (v := 1) dX5_gather_13 (by decide) ?_
  refine m_iast 44 (a_44 e _) (aw_44 e _) h.1 dX5_gather_14 (fun S2 eS2 => ?_)
  replace h := h.2 S2 eS2
  refine m_iconst (v := 0) dX5_gather_15 (by decide) ?_
  refine m_istore_n (lv2 := [(2, .int (0 : Int32)), (0, .ref (e.2.2.1 38)), (1, .int p1)]) dX5_gather_16 rfl (by decide) rfl ?_
  obtain ⟨n, h⟩ := h
  refine m_loc [1, 2, 0] rfl ?_
  refine l_X5_gather_L17 (fun S10 h => ?_) n S2 (0 : Int32) h
  exact m_vret hR ⟨rfl, h⟩ dX5_gather_41
def X5_waysBeside_L4 (S4 : St) (f3 : Int32) (kx : Int32 → Prop) : Nat → Int32 → Int32 → Prop
  | 0 => fun _ _ => False
  | n + 1 => (fun (rec : Int32 → Int32 → Prop) => fun (v1 : Int32) (v2 : Int32) => ((((1 : Int32) <<< ((S4.1 3901 0) &&& 31)) ≤ v2 → kx v1) ∧ (¬ ((1 : Int32) <<< ((S4.1 3901 0) &&& 31)) ≤ v2 → ((¬ (v2 &&& f3) = 0 → ∀ x5 : Int32, x5 = v2 + (1 : Int32) → rec v1 x5) ∧ ((v2 &&& f3) = 0 → (vp_in v2 8 ∧ ∀ x6 : Int32, x6 = v1 + (S4.1 44 v2.toNatClampNeg) → ∀ x7 : Int32, x7 = v2 + (1 : Int32) → rec x6 x7)))))) (X5_waysBeside_L4 S4 f3 kx n)
def w_X5_waysBeside (S0 : St) (p1 : Int32) (Q : Int32 → Prop) : Prop :=
  (∃ n : Nat, X5_waysBeside_L4 S0 p1 (fun (v9 : Int32) => Q v9) n (0 : Int32) (0 : Int32))
set_option maxRecDepth 100000 in
set_option maxHeartbeats 4000000 in
theorem l_X5_waysBeside_L4 {Z : Zt} {e : GE} {S4 : St} {f3 : Int32} {kx : Int32 → Prop} (hk : ∀ (v8 : Int32), kx v8 → MW Z e cX5_waysBeside 4 RX5 1 35 [(2, .int v8)] [] S4) : ∀ (n : Nat) (v1 : Int32) (v2 : Int32), X5_waysBeside_L4 S4 f3 kx n v1 v2 → MW Z e cX5_waysBeside 4 RX5 1 4 [(0, .ref (e.2.2.1 38)), (1, .int f3), (2, .int v1), (3, .int v2)] [] S4 := by
  intro n
  induction n with
  | zero =>
    intro v1 v2 h
    exact h.elim
  | succ n ih =>
    intro v1 v2 h
    rw [X5_waysBeside_L4] at h
    refine m_iload_n dX5_waysBeside_4 3 rfl rfl ?_
    refine m_iconst (v := 1) dX5_waysBeside_5 (by decide) ?_
    refine m_aload_n dX5_waysBeside_6 0 rfl rfl ?_
    refine m_get 38 1 (o_38 e _) rfl inlX5 (by decide) q4_20 rfl dX5_waysBeside_7 ?_
    refine m_ishl dX5_waysBeside_10 ?_
    refine m_icmp_ge (tgt := 35) dX5_waysBeside_11 (by decide) (fun z => ?_) (fun z => ?_)
    · replace h := h.1 z
      refine m_loc [2] rfl ?_
      exact hk v1 h
    · replace h := h.2 z
      refine m_iload_n dX5_waysBeside_14 3 rfl rfl ?_
      refine m_iload_n dX5_waysBeside_15 1 rfl rfl ?_
      refine m_iand dX5_waysBeside_16 ?_
      refine m_if_ne (tgt := 29) dX5_waysBeside_17 (by decide) (fun z => ?_) (fun z => ?_)
      · replace h := h.1 z
        obtain ⟨x5, ex5⟩ : ∃ y : Int32, y = v2 + (1 : Int32) := ⟨_, rfl⟩
        replace h := h x5 ex5
        refine m_iinc (v := x5) (lv2 := [(3, .int x5), (0, .ref (e.2.2.1 38)), (1, .int f3), (2, .int v1)]) dX5_waysBeside_29 3 rfl ex5.symm (by decide) rfl ?_
        refine m_goto (tgt := 4) dX5_waysBeside_32 (by decide) ?_
        refine m_loc [1, 2, 3, 0] rfl ?_
        exact ih v1 x5 h
      · replace h := h.2 z
        refine m_iload_n dX5_waysBeside_20 2 rfl rfl ?_
        refine m_aload_n dX5_waysBeside_21 0 rfl rfl ?_
        refine m_get 38 7 (o_38 e _) rfl inlX5 (by decide) q5_2 rfl dX5_waysBeside_22 ?_
        refine m_iload_n dX5_waysBeside_25 3 rfl rfl ?_
        refine m_iald 44 (a_44 e _) h.1 dX5_waysBeside_26 ?_
        replace h := h.2
        refine m_iadd dX5_waysBeside_27 ?_
        refine m_topi (fun x6 ex6 => ?_)
        replace h := h x6 ex6
        refine m_istore_n (lv2 := [(2, .int x6), (0, .ref (e.2.2.1 38)), (1, .int f3), (3, .int v2)]) dX5_waysBeside_28 rfl (by decide) rfl ?_
        obtain ⟨x7, ex7⟩ : ∃ y : Int32, y = v2 + (1 : Int32) := ⟨_, rfl⟩
        replace h := h x7 ex7
        refine m_iinc (v := x7) (lv2 := [(3, .int x7), (2, .int x6), (0, .ref (e.2.2.1 38)), (1, .int f3)]) dX5_waysBeside_29 3 rfl ex7.symm (by decide) rfl ?_
        refine m_goto (tgt := 4) dX5_waysBeside_32 (by decide) ?_
        refine m_loc [2, 3, 1, 0] rfl ?_
        exact ih x6 x7 h
set_option maxRecDepth 100000 in
set_option maxHeartbeats 4000000 in
theorem c_X5_waysBeside {e : GE} {S0 : St} {p1 : Int32} {Q : Int32 → Prop} (h : w_X5_waysBeside S0 p1 Q) : CT e yX5_waysBeside cX5_waysBeside 4 (some .int) 1 [.ref (e.2.2.1 38), .int p1] S0 (pR S0 Q) := by
  refine CT.of (by decide) (Nat.le_of_ble_eq_true rfl) (fun Z hR => ?_)
  rw [w_X5_waysBeside] at h
  show MW Z e cX5_waysBeside 4 RX5 1 0 [(0, .ref (e.2.2.1 38)), (1, .int p1)] [] S0
  refine m_iconst (v := 0) dX5_waysBeside_0 (by decide) ?_
  refine m_istore_n (lv2 := [(2, .int (0 : Int32)), (0, .ref (e.2.2.1 38)), (1, .int p1)]) dX5_waysBeside_1 rfl (by decide) rfl ?_
  refine m_iconst (v := 0) dX5_waysBeside_2 (by decide) ?_
  refine m_istore_n (lv2 := [(3, .int (0 : Int32)), (2, .int (0 : Int32)), (0, .ref (e.2.2.1 38)), (1, .int p1)]) dX5_waysBeside_3 rfl (by decide) rfl ?_
  obtain ⟨n, h⟩ := h
  refine m_loc [2, 3, 1, 0] rfl ?_
  refine l_X5_waysBeside_L4 (fun v9 h => ?_) n (0 : Int32) (0 : Int32) h
  refine m_iload_n dX5_waysBeside_35 0 rfl rfl ?_
  exact m_iret hR ⟨_, rfl, rfl, h⟩ dX5_waysBeside_36
def w_X5_all (S0 : St)  (Q : Int32 → St → Prop) : Prop :=
  (w_X5_gather S0 (-9 : Int32)  (fun S1 => (w_X5_waysBeside S1 (0 : Int32)  (fun r2 => Q r2 S1))))
set_option maxRecDepth 100000 in
set_option maxHeartbeats 4000000 in
theorem c_X5_all {e : GE} {S0 : St}  {Q : Int32 → St → Prop} (h : w_X5_all S0  Q) : CT e yX5_all cX5_all 1 (some .int) 5 [.ref (e.2.2.1 38)] S0 (pI Q) := by
  refine CT.of (by decide) (Nat.le_of_ble_eq_true rfl) (fun Z hR => ?_)
  rw [w_X5_all] at h
  show MW Z e cX5_all 1 RX5 5 0 [(0, .ref (e.2.2.1 38))] [] S0
  refine m_aload_n dX5_all_0 0 rfl rfl ?_
  refine m_bipush (v := -9) dX5_all_1 (by decide) ?_
  refine m_callV 38 [.int (-9 : Int32)] (c_X5_gather h) (o_38 e _) rfl rfl q23_14 q23_15 q23_16 q2_8 q23_17 t_X5_gather rfl (by omega) (by decide) (Nat.le_of_ble_eq_true rfl) rfl dX5_all_3 (kV (P := MW Z e cX5_all 1 RX5 5 6 [(0, .ref (e.2.2.1 38))]) (fun S1 h => ?_))
  refine m_aload_n dX5_all_6 0 rfl rfl ?_
  refine m_iconst (v := 0) dX5_all_7 (by decide) ?_
  refine m_callV 38 [.int (0 : Int32)] (c_X5_waysBeside h) (o_38 e _) rfl rfl q23_23 q24_0 q24_1 q2_8 q24_2 t_X5_waysBeside rfl (by omega) (by decide) (Nat.le_of_ble_eq_true rfl) rfl dX5_all_8 (kR (P := MW Z e cX5_all 1 RX5 5 11 [(0, .ref (e.2.2.1 38))]) (fun r2 h => ?_))
  exact m_iret hR ⟨_, rfl, h⟩ dX5_all_11
def w_X6_fits (S0 : St)  (Q : Int32 → St → Prop) : Prop :=
  (w_X5_learn S0  (fun S1 => (w_X5_all S1  (fun r2 S3 => Q r2 S3))))
set_option maxRecDepth 100000 in
set_option maxHeartbeats 4000000 in
theorem c_X6_fits {e : GE} {S0 : St}  {Q : Int32 → St → Prop} (h : w_X6_fits S0  Q) : CT e yX6_fits cX6_fits 1 (some .int) 13 [.ref (e.2.2.1 0)] S0 (pI Q) := by
  refine CT.of (by decide) (Nat.le_of_ble_eq_true rfl) (fun Z hR => ?_)
  rw [w_X6_fits] at h
  show MW Z e cX6_fits 1 RX6 13 0 [(0, .ref (e.2.2.1 0))] [] S0
  refine m_aload_n dX6_fits_0 0 rfl rfl ?_
  refine m_get 0 6 (o_0 e _) rfl inlX6 (by decide) q2_9 rfl dX6_fits_1 ?_
  refine m_aload_n dX6_fits_4 0 rfl rfl ?_
  refine m_get 0 2 (o_0 e _) rfl inlX6 (by decide) q1_22 rfl dX6_fits_5 ?_
  refine m_aload_n dX6_fits_8 0 rfl rfl ?_
  refine m_get 0 3 (o_0 e _) rfl inlX6 (by decide) q2_2 rfl dX6_fits_9 ?_
  refine m_callV 38 [.ref (e.2.2.1 11), .ref (e.2.2.1 18)] (c_X5_learn h) (o_38 e _) rfl rfl q22_9 q22_10 q22_11 q2_8 q22_12 t_X5_learn rfl (by omega) (by decide) (Nat.le_of_ble_eq_true rfl) rfl dX6_fits_12 (kV (P := MW Z e cX6_fits 1 RX6 13 15 [(0, .ref (e.2.2.1 0))]) (fun S1 h => ?_))
  refine m_aload_n dX6_fits_15 0 rfl rfl ?_
  refine m_get 0 6 (o_0 e _) rfl inlX6 (by decide) q2_9 rfl dX6_fits_16 ?_
  refine m_callV 38 [] (c_X5_all h) (o_38 e _) rfl rfl q23_10 q23_11 q23_12 q2_8 q23_13 t_X5_all rfl (by omega) (by decide) (Nat.le_of_ble_eq_true rfl) rfl dX6_fits_19 (kI (P := MW Z e cX6_fits 1 RX6 13 22 [(0, .ref (e.2.2.1 0))]) (fun r2 S3 h => ?_))
  exact m_iret hR ⟨_, rfl, h⟩ dX6_fits_22
def w_X5_holdingNone (S0 : St) (p1 : Int32) (Q : Int32 → St → Prop) : Prop :=
  (w_X5_gather S0 (-9 : Int32)  (fun S1 => (w_X5_waysBeside S1 ((1 : Int32) <<< (p1 &&& 31))  (fun r2 => Q r2 S1))))
set_option maxRecDepth 100000 in
set_option maxHeartbeats 4000000 in
theorem c_X5_holdingNone {e : GE} {S0 : St} {p1 : Int32} {Q : Int32 → St → Prop} (h : w_X5_holdingNone S0 p1 Q) : CT e yX5_holdingNone cX5_holdingNone 2 (some .int) 5 [.ref (e.2.2.1 38), .int p1] S0 (pI Q) := by
  refine CT.of (by decide) (Nat.le_of_ble_eq_true rfl) (fun Z hR => ?_)
  rw [w_X5_holdingNone] at h
  show MW Z e cX5_holdingNone 2 RX5 5 0 [(0, .ref (e.2.2.1 38)), (1, .int p1)] [] S0
  refine m_aload_n dX5_holdingNone_0 0 rfl rfl ?_
  refine m_bipush (v := -9) dX5_holdingNone_1 (by decide) ?_
  refine m_callV 38 [.int (-9 : Int32)] (c_X5_gather h) (o_38 e _) rfl rfl q23_14 q23_15 q23_16 q2_8 q23_17 t_X5_gather rfl (by omega) (by decide) (Nat.le_of_ble_eq_true rfl) rfl dX5_holdingNone_3 (kV (P := MW Z e cX5_holdingNone 2 RX5 5 6 [(0, .ref (e.2.2.1 38)), (1, .int p1)]) (fun S1 h => ?_))
  refine m_aload_n dX5_holdingNone_6 0 rfl rfl ?_
  refine m_iconst (v := 1) dX5_holdingNone_7 (by decide) ?_
  refine m_iload_n dX5_holdingNone_8 1 rfl rfl ?_
  refine m_ishl dX5_holdingNone_9 ?_
  refine m_callV 38 [.int ((1 : Int32) <<< (p1 &&& 31))] (c_X5_waysBeside h) (o_38 e _) rfl rfl q23_23 q24_0 q24_1 q2_8 q24_2 t_X5_waysBeside rfl (by omega) (by decide) (Nat.le_of_ble_eq_true rfl) rfl dX5_holdingNone_10 (kR (P := MW Z e cX5_holdingNone 2 RX5 5 13 [(0, .ref (e.2.2.1 38)), (1, .int p1)]) (fun r2 h => ?_))
  exact m_iret hR ⟨_, rfl, h⟩ dX5_holdingNone_13
def X5_holding_L10 (S6 : St) (f4 : Int32) (f5 : Int32) (kx : Int32 → Prop) : Nat → Int32 → Int32 → Prop
  | 0 => fun _ _ => False
  | n + 1 => (fun (rec : Int32 → Int32 → Prop) => fun (v2 : Int32) (v3 : Int32) => ((((1 : Int32) <<< ((S6.1 3901 0) &&& 31)) ≤ v3 → kx v2) ∧ (¬ ((1 : Int32) <<< ((S6.1 3901 0) &&& 31)) ≤ v3 → (w_X5_isIn v3 f4  (fun r7 => ((r7 = 0 → ∀ x8 : Int32, x8 = v3 + (1 : Int32) → rec v2 x8) ∧ (¬ r7 = 0 → (vp_in ((f5 * (8 : Int32)) + v3) 48 ∧ (w_X5_waysBeside S6 v3  (fun r9 => ∀ x10 : Int32, x10 = v2 + ((S6.1 43 ((f5 * (8 : Int32)) + v3).toNatClampNeg) * r9) → ∀ x11 : Int32, x11 = v3 + (1 : Int32) → rec x10 x11)))))))))) (X5_holding_L10 S6 f4 f5 kx n)
def w_X5_holding (S0 : St) (p1 : Int32) (p2 : Int32) (Q : Int32 → St → Prop) : Prop :=
  (w_X5_gather S0 p2  (fun S1 => (∃ n : Nat, X5_holding_L10 S1 p1 p2 (fun (v13 : Int32) => Q v13 S1) n (0 : Int32) (0 : Int32))))
set_option maxRecDepth 100000 in
set_option maxHeartbeats 4000000 in
theorem l_X5_holding_L10 {Z : Zt} {e : GE} {S6 : St} {f4 : Int32} {f5 : Int32} {kx : Int32 → Prop} (hk : ∀ (v12 : Int32), kx v12 → MW Z e cX5_holding 5 RX5 5 58 [(3, .int v12)] [] S6) : ∀ (n : Nat) (v2 : Int32) (v3 : Int32), X5_holding_L10 S6 f4 f5 kx n v2 v3 → MW Z e cX5_holding 5 RX5 5 10 [(0, .ref (e.2.2.1 38)), (1, .int f4), (2, .int f5), (3, .int v2), (4, .int v3)] [] S6 := by
  intro n
  induction n with
  | zero =>
    intro v2 v3 h
    exact h.elim
  | succ n ih =>
    intro v2 v3 h
    rw [X5_holding_L10] at h
    refine m_iload dX5_holding_10 4 rfl ?_
    refine m_iconst (v := 1) dX5_holding_12 (by decide) ?_
    refine m_aload_n dX5_holding_13 0 rfl rfl ?_
    refine m_get 38 1 (o_38 e _) rfl inlX5 (by decide) q4_20 rfl dX5_holding_14 ?_
    refine m_ishl dX5_holding_17 ?_
    refine m_icmp_ge (tgt := 58) dX5_holding_18 (by decide) (fun z => ?_) (fun z => ?_)
    · replace h := h.1 z
      refine m_loc [3] rfl ?_
      exact hk v2 h
    · replace h := h.2 z
      refine m_iload dX5_holding_21 4 rfl ?_
      refine m_iload_n dX5_holding_23 1 rfl rfl ?_
      refine m_callS [.int v3, .int f4] (c_X5_isIn h) q23_3 q23_4 q2_8 q23_5 t_X5_isIn rfl (by omega) (by decide) (Nat.le_of_ble_eq_true rfl) rfl dX5_holding_24 (kR (P := MW Z e cX5_holding 5 RX5 5 27 [(0, .ref (e.2.2.1 38)), (1, .int f4), (2, .int f5), (3, .int v2), (4, .int v3)]) (fun r7 h => ?_))
      refine m_if_eq (tgt := 52) dX5_holding_27 (by decide) (fun z => ?_) (fun z => ?_)
      · replace h := h.1 z
        obtain ⟨x8, ex8⟩ : ∃ y : Int32, y = v3 + (1 : Int32) := ⟨_, rfl⟩
        replace h := h x8 ex8
        refine m_iinc (v := x8) (lv2 := [(4, .int x8), (0, .ref (e.2.2.1 38)), (1, .int f4), (2, .int f5), (3, .int v2)]) dX5_holding_52 4 rfl ex8.symm (by decide) rfl ?_
        refine m_goto (tgt := 10) dX5_holding_55 (by decide) ?_
        refine m_loc [1, 2, 3, 4, 0] rfl ?_
        exact ih v2 x8 h
      · replace h := h.2 z
        refine m_iload_n dX5_holding_30 3 rfl rfl ?_
        refine m_aload_n dX5_holding_31 0 rfl rfl ?_
        refine m_get 38 6 (o_38 e _) rfl inlX5 (by decide) q5_1 rfl dX5_holding_32 ?_
        refine m_iload_n dX5_holding_35 2 rfl rfl ?_
        refine m_bipush (v := 8) dX5_holding_36 (by decide) ?_
        refine m_imul dX5_holding_38 ?_
        refine m_iload dX5_holding_39 4 rfl ?_
        refine m_iadd dX5_holding_41 ?_
        refine m_iald 43 (a_43 e _) h.1 dX5_holding_42 ?_
        replace h := h.2
        refine m_aload_n dX5_holding_43 0 rfl rfl ?_
        refine m_iload dX5_holding_44 4 rfl ?_
        refine m_callV 38 [.int v3] (c_X5_waysBeside h) (o_38 e _) rfl rfl q23_23 q24_0 q24_1 q2_8 q24_2 t_X5_waysBeside rfl (by omega) (by decide) (Nat.le_of_ble_eq_true rfl) rfl dX5_holding_46 (kR (P := MW Z e cX5_holding 5 RX5 5 49 [(0, .ref (e.2.2.1 38)), (1, .int f4), (2, .int f5), (3, .int v2), (4, .int v3)]) (fun r9 h => ?_))
        refine m_imul dX5_holding_49 ?_
        refine m_iadd dX5_holding_50 ?_
        refine m_topi (fun x10 ex10 => ?_)
        replace h := h x10 ex10
        refine m_istore_n (lv2 := [(3, .int x10), (0, .ref (e.2.2.1 38)), (1, .int f4), (2, .int f5), (4, .int v3)]) dX5_holding_51 rfl (by decide) rfl ?_
        obtain ⟨x11, ex11⟩ : ∃ y : Int32, y = v3 + (1 : Int32) := ⟨_, rfl⟩
        replace h := h x11 ex11
        refine m_iinc (v := x11) (lv2 := [(4, .int x11), (3, .int x10), (0, .ref (e.2.2.1 38)), (1, .int f4), (2, .int f5)]) dX5_holding_52 4 rfl ex11.symm (by decide) rfl ?_
        refine m_goto (tgt := 10) dX5_holding_55 (by decide) ?_
        refine m_loc [2, 3, 4, 1, 0] rfl ?_
        exact ih x10 x11 h
set_option maxRecDepth 100000 in
set_option maxHeartbeats 4000000 in
theorem c_X5_holding {e : GE} {S0 : St} {p1 : Int32} {p2 : Int32} {Q : Int32 → St → Prop} (h : w_X5_holding S0 p1 p2 Q) : CT e yX5_holding cX5_holding 5 (some .int) 5 [.ref (e.2.2.1 38), .int p1, .int p2] S0 (pI Q) := by
  refine CT.of (by decide) (Nat.le_of_ble_eq_true rfl) (fun Z hR => ?_)
  rw [w_X5_holding] at h
  show MW Z e cX5_holding 5 RX5 5 0 [(0, .ref (e.2.2.1 38)), (1, .int p1), (2, .int p2)] [] S0
  refine m_aload_n dX5_holding_0 0 rfl rfl ?_
  refine m_iload_n dX5_holding_1 2 rfl rfl ?_
  refine m_callV 38 [.int p2] (c_X5_gather h) (o_38 e _) rfl rfl q23_14 q23_15 q23_16 q2_8 q23_17 t_X5_gather rfl (by omega) (by decide) (Nat.le_of_ble_eq_true rfl) rfl dX5_holding_2 (kV (P := MW Z e cX5_holding 5 RX5 5 5 [(0, .ref (e.2.2.1 38)), (1, .int p1), (2, .int p2)]) (fun S1 h => ?_))
  refine m_iconst (v := 0) dX5_holding_5 (by decide) ?_
  refine m_istore_n (lv2 := [(3, .int (0 : Int32)), (0, .ref (e.2.2.1 38)), (1, .int p1), (2, .int p2)]) dX5_holding_6 rfl (by decide) rfl ?_
  refine m_iconst (v := 0) dX5_holding_7 (by decide) ?_
  refine m_istore (lv2 := [(4, .int (0 : Int32)), (3, .int (0 : Int32)), (0, .ref (e.2.2.1 38)), (1, .int p1), (2, .int p2)]) dX5_holding_8 (by decide) rfl ?_
  obtain ⟨n, h⟩ := h
  refine m_loc [2, 3, 4, 1, 0] rfl ?_
  refine l_X5_holding_L10 (fun v13 h => ?_) n (0 : Int32) (0 : Int32) h
  refine m_iload_n dX5_holding_58 0 rfl rfl ?_
  exact m_iret hR ⟨_, rfl, h⟩ dX5_holding_59
def X6_sure_L60 (f9 : Int32) (f10 : Int32) (Q : Int32 → St → Prop) (kx : St → Prop) : Nat → St → Int32 → Prop
  | 0 => fun _ _ => False
  | n + 1 => (fun (rec : St → Int32 → Prop) => fun (S7 : St) (v8 : Int32) => (((S7.1 1200 0) ≤ v8 → kx S7) ∧ (¬ (S7.1 1200 0) ≤ v8 → (w_X5_holding S7 f9 v8  (fun r11 S12 => ((¬ r11 = f10 → ∀ x13 : Int32, x13 = v8 + (1 : Int32) → rec S12 x13) ∧ (r11 = f10 → Q v8 S12))))))) (X6_sure_L60 f9 f10 Q kx n)
def w_X6_sure (S0 : St) (p1 : Int32) (Q : Int32 → St → Prop) : Prop :=
  (w_X2_hasPerson S0 p1  (fun r1 => ((¬ r1 = 0 → (w_X5_learn S0  (fun S2 => (w_X5_all S2  (fun r3 S4 => ((¬ r3 = 0 → (w_X5_holdingNone S4 p1  (fun r5 S6 => ((¬ r5 = r3 → (∃ n : Nat, X6_sure_L60 p1 r3 Q (fun (S15 : St) => Q (-5 : Int32) S15) n S6 (0 : Int32))) ∧ (r5 = r3 → Q (-4 : Int32) S6))))) ∧ (r3 = 0 → Q (-9 : Int32) S4))))))) ∧ (r1 = 0 → Q (-1 : Int32) S0))))
set_option maxRecDepth 100000 in
set_option maxHeartbeats 4000000 in
theorem l_X6_sure_L60 {Z : Zt} {e : GE} {f9 : Int32} {f10 : Int32} {Q : Int32 → St → Prop} {kx : St → Prop} (hR : RT Z e (some .int) (pI Q)) (hk : ∀ (S14 : St), kx S14 → MW Z e cX6_sure 4 RX6 13 92 [] [] S14) : ∀ (n : Nat) (S7 : St) (v8 : Int32), X6_sure_L60 f9 f10 Q kx n S7 v8 → MW Z e cX6_sure 4 RX6 13 60 [(0, .ref (e.2.2.1 0)), (1, .int f9), (2, .int f10), (3, .int v8)] [] S7 := by
  intro n
  induction n with
  | zero =>
    intro S7 v8 h
    exact h.elim
  | succ n ih =>
    intro S7 v8 h
    rw [X6_sure_L60] at h
    refine m_iload_n dX6_sure_60 3 rfl rfl ?_
    refine m_aload_n dX6_sure_61 0 rfl rfl ?_
    refine m_get 0 2 (o_0 e _) rfl inlX6 (by decide) q1_22 rfl dX6_sure_62 ?_
    refine m_get 11 0 (o_11 e _) rfl inlX2 (by decide) q25_0 rfl dX6_sure_65 ?_
    refine m_icmp_ge (tgt := 92) dX6_sure_68 (by decide) (fun z => ?_) (fun z => ?_)
    · replace h := h.1 z
      refine m_loc [] rfl ?_
      exact hk S7 h
    · replace h := h.2 z
      refine m_aload_n dX6_sure_71 0 rfl rfl ?_
      refine m_get 0 6 (o_0 e _) rfl inlX6 (by decide) q2_9 rfl dX6_sure_72 ?_
      refine m_iload_n dX6_sure_75 1 rfl rfl ?_
      refine m_iload_n dX6_sure_76 3 rfl rfl ?_
      refine m_callV 38 [.int f9, .int v8] (c_X5_holding h) (o_38 e _) rfl rfl q25_5 q25_6 q25_7 q2_8 q25_8 t_X5_holding rfl (by omega) (by decide) (Nat.le_of_ble_eq_true rfl) rfl dX6_sure_77 (kI (P := MW Z e cX6_sure 4 RX6 13 80 [(0, .ref (e.2.2.1 0)), (1, .int f9), (2, .int f10), (3, .int v8)]) (fun r11 S12 h => ?_))
      refine m_iload_n dX6_sure_80 2 rfl rfl ?_
      refine m_icmp_ne (tgt := 86) dX6_sure_81 (by decide) (fun z => ?_) (fun z => ?_)
      · replace h := h.1 z
        obtain ⟨x13, ex13⟩ : ∃ y : Int32, y = v8 + (1 : Int32) := ⟨_, rfl⟩
        replace h := h x13 ex13
        refine m_iinc (v := x13) (lv2 := [(3, .int x13), (0, .ref (e.2.2.1 0)), (1, .int f9), (2, .int f10)]) dX6_sure_86 3 rfl ex13.symm (by decide) rfl ?_
        refine m_goto (tgt := 60) dX6_sure_89 (by decide) ?_
        refine m_loc [1, 2, 3, 0] rfl ?_
        exact ih S12 x13 h
      · replace h := h.2 z
        refine m_iload_n dX6_sure_84 3 rfl rfl ?_
        exact m_iret hR ⟨_, rfl, h⟩ dX6_sure_85
set_option maxRecDepth 100000 in
set_option maxHeartbeats 4000000 in
theorem c_X6_sure {e : GE} {S0 : St} {p1 : Int32} {Q : Int32 → St → Prop} (h : w_X6_sure S0 p1 Q) : CT e yX6_sure cX6_sure 4 (some .int) 13 [.ref (e.2.2.1 0), .int p1] S0 (pI Q) := by
  refine CT.of (by decide) (Nat.le_of_ble_eq_true rfl) (fun Z hR => ?_)
  rw [w_X6_sure] at h
  show MW Z e cX6_sure 4 RX6 13 0 [(0, .ref (e.2.2.1 0)), (1, .int p1)] [] S0
  refine m_aload_n dX6_sure_0 0 rfl rfl ?_
  refine m_get 0 2 (o_0 e _) rfl inlX6 (by decide) q1_22 rfl dX6_sure_1 ?_
  refine m_iload_n dX6_sure_4 1 rfl rfl ?_
  refine m_callV 11 [.int p1] (c_X2_hasPerson h) (o_11 e _) rfl rfl q16_13 q16_14 q16_15 q1_21 q16_16 t_X2_hasPerson rfl (by omega) (by decide) (Nat.le_of_ble_eq_true rfl) rfl dX6_sure_5 (kR (P := MW Z e cX6_sure 4 RX6 13 8 [(0, .ref (e.2.2.1 0)), (1, .int p1)]) (fun r1 h => ?_))
  refine m_if_ne (tgt := 13) dX6_sure_8 (by decide) (fun z => ?_) (fun z => ?_)
  · replace h := h.1 z
    refine m_aload_n dX6_sure_13 0 rfl rfl ?_
    refine m_get 0 6 (o_0 e _) rfl inlX6 (by decide) q2_9 rfl dX6_sure_14 ?_
    refine m_aload_n dX6_sure_17 0 rfl rfl ?_
    refine m_get 0 2 (o_0 e _) rfl inlX6 (by decide) q1_22 rfl dX6_sure_18 ?_
    refine m_aload_n dX6_sure_21 0 rfl rfl ?_
    refine m_get 0 3 (o_0 e _) rfl inlX6 (by decide) q2_2 rfl dX6_sure_22 ?_
    refine m_callV 38 [.ref (e.2.2.1 11), .ref (e.2.2.1 18)] (c_X5_learn h) (o_38 e _) rfl rfl q22_9 q22_10 q22_11 q2_8 q22_12 t_X5_learn rfl (by omega) (by decide) (Nat.le_of_ble_eq_true rfl) rfl dX6_sure_25 (kV (P := MW Z e cX6_sure 4 RX6 13 28 [(0, .ref (e.2.2.1 0)), (1, .int p1)]) (fun S2 h => ?_))
    refine m_aload_n dX6_sure_28 0 rfl rfl ?_
    refine m_get 0 6 (o_0 e _) rfl inlX6 (by decide) q2_9 rfl dX6_sure_29 ?_
    refine m_callV 38 [] (c_X5_all h) (o_38 e _) rfl rfl q23_10 q23_11 q23_12 q2_8 q23_13 t_X5_all rfl (by omega) (by decide) (Nat.le_of_ble_eq_true rfl) rfl dX6_sure_32 (kI (P := MW Z e cX6_sure 4 RX6 13 35 [(0, .ref (e.2.2.1 0)), (1, .int p1)]) (fun r3 S4 h => ?_))
    refine m_istore_n (lv2 := [(2, .int r3), (0, .ref (e.2.2.1 0)), (1, .int p1)]) dX6_sure_35 rfl (by decide) rfl ?_
    refine m_iload_n dX6_sure_36 0 rfl rfl ?_
    refine m_if_ne (tgt := 43) dX6_sure_37 (by decide) (fun z => ?_) (fun z => ?_)
    · replace h := h.1 z
      refine m_aload_n dX6_sure_43 1 rfl rfl ?_
      refine m_get 0 6 (o_0 e _) rfl inlX6 (by decide) q2_9 rfl dX6_sure_44 ?_
      refine m_iload_n dX6_sure_47 2 rfl rfl ?_
      refine m_callV 38 [.int p1] (c_X5_holdingNone h) (o_38 e _) rfl rfl q25_1 q25_2 q25_3 q2_8 q25_4 t_X5_holdingNone rfl (by omega) (by decide) (Nat.le_of_ble_eq_true rfl) rfl dX6_sure_48 (kI (P := MW Z e cX6_sure 4 RX6 13 51 [(2, .int r3), (0, .ref (e.2.2.1 0)), (1, .int p1)]) (fun r5 S6 h => ?_))
      refine m_iload_n dX6_sure_51 0 rfl rfl ?_
      refine m_icmp_ne (tgt := 58) dX6_sure_52 (by decide) (fun z => ?_) (fun z => ?_)
      · replace h := h.1 z
        refine m_iconst (v := 0) dX6_sure_58 (by decide) ?_
        refine m_istore_n (lv2 := [(3, .int (0 : Int32)), (2, .int r3), (0, .ref (e.2.2.1 0)), (1, .int p1)]) dX6_sure_59 rfl (by decide) rfl ?_
        obtain ⟨n, h⟩ := h
        refine m_loc [2, 3, 1, 0] rfl ?_
        refine l_X6_sure_L60 hR (fun S15 h => ?_) n S6 (0 : Int32) h
        refine m_bipush (v := -5) dX6_sure_92 (by decide) ?_
        exact m_iret hR ⟨_, rfl, h⟩ dX6_sure_94
      · replace h := h.2 z
        refine m_bipush (v := -4) dX6_sure_55 (by decide) ?_
        exact m_iret hR ⟨_, rfl, h⟩ dX6_sure_57
    · replace h := h.2 z
      refine m_bipush (v := -9) dX6_sure_40 (by decide) ?_
      exact m_iret hR ⟨_, rfl, h⟩ dX6_sure_42
  · replace h := h.2 z
    refine m_iconst (v := -1) dX6_sure_11 (by decide) ?_
    exact m_iret hR ⟨_, rfl, h⟩ dX6_sure_12
def X6_commonDivisor_L7 (kx : Int32 → Prop) : Nat → Int32 → Int32 → Int32 → Prop
  | 0 => fun _ _ _ => False
  | n + 1 => (fun (rec : Int32 → Int32 → Int32 → Prop) => fun (v1 : Int32) (v2 : Int32) (v3 : Int32) => (((64 : Int32) ≤ v3 → kx v1) ∧ (¬ (64 : Int32) ≤ v3 → ((v2 = 0 → kx v1) ∧ (¬ v2 = 0 → (¬ v2 = 0 ∧ ∀ x4 : Int32, x4 = v1 - v1 / v2 * v2 → ∀ x5 : Int32, x5 = v3 + (1 : Int32) → rec v2 x4 x5)))))) (X6_commonDivisor_L7 kx n)
def w_X6_commonDivisor (p1 : Int32) (p2 : Int32) (Q : Int32 → Prop) : Prop :=
  (∃ n : Nat, X6_commonDivisor_L7 (fun (v7 : Int32) => Q v7) n p2 p1 (0 : Int32))
set_option maxRecDepth 100000 in
set_option maxHeartbeats 4000000 in
theorem l_X6_commonDivisor_L7 {Z : Zt} {e : GE} {S0 : St} {kx : Int32 → Prop} (hk : ∀ (v6 : Int32), kx v6 → MW Z e cX6_commonDivisor 6 RX6 1 34 [(2, .int v6)] [] S0) : ∀ (n : Nat) (v1 : Int32) (v2 : Int32) (v3 : Int32), X6_commonDivisor_L7 kx n v1 v2 v3 → MW Z e cX6_commonDivisor 6 RX6 1 7 [(2, .int v1), (3, .int v2), (4, .int v3)] [] S0 := by
  intro n
  induction n with
  | zero =>
    intro v1 v2 v3 h
    exact h.elim
  | succ n ih =>
    intro v1 v2 v3 h
    rw [X6_commonDivisor_L7] at h
    refine m_iload dX6_commonDivisor_7 2 rfl ?_
    refine m_bipush (v := 64) dX6_commonDivisor_9 (by decide) ?_
    refine m_icmp_ge (tgt := 34) dX6_commonDivisor_11 (by decide) (fun z => ?_) (fun z => ?_)
    · replace h := h.1 z
      refine m_loc [0] rfl ?_
      exact hk v1 h
    · replace h := h.2 z
      refine m_iload_n dX6_commonDivisor_14 1 rfl rfl ?_
      refine m_if_eq (tgt := 34) dX6_commonDivisor_15 (by decide) (fun z => ?_) (fun z => ?_)
      · replace h := h.1 z
        refine m_loc [0] rfl ?_
        exact hk v1 h
      · replace h := h.2 z
        refine m_iload_n dX6_commonDivisor_18 0 rfl rfl ?_
        refine m_iload_n dX6_commonDivisor_19 1 rfl rfl ?_
        refine m_irem dX6_commonDivisor_20 h.1 ?_
        replace h := h.2
        refine m_topi (fun x4 ex4 => ?_)
        replace h := h x4 ex4
        refine m_istore (lv2 := [(5, .int x4), (2, .int v1), (3, .int v2), (4, .int v3)]) dX6_commonDivisor_21 (by decide) rfl ?_
        refine m_iload_n dX6_commonDivisor_23 2 rfl rfl ?_
        refine m_istore_n (lv2 := [(2, .int v2), (5, .int x4), (3, .int v2), (4, .int v3)]) dX6_commonDivisor_24 rfl (by decide) rfl ?_
        refine m_iload dX6_commonDivisor_25 1 rfl ?_
        refine m_istore_n (lv2 := [(3, .int x4), (2, .int v2), (5, .int x4), (4, .int v3)]) dX6_commonDivisor_27 rfl (by decide) rfl ?_
        obtain ⟨x5, ex5⟩ : ∃ y : Int32, y = v3 + (1 : Int32) := ⟨_, rfl⟩
        replace h := h x5 ex5
        refine m_iinc (v := x5) (lv2 := [(4, .int x5), (3, .int x4), (2, .int v2), (5, .int x4)]) dX6_commonDivisor_28 3 rfl ex5.symm (by decide) rfl ?_
        refine m_goto (tgt := 7) dX6_commonDivisor_31 (by decide) ?_
        refine m_loc [2, 1, 0] rfl ?_
        exact ih v2 x4 x5 h
set_option maxRecDepth 100000 in
set_option maxHeartbeats 4000000 in
theorem c_X6_commonDivisor {e : GE} {S0 : St} {p1 : Int32} {p2 : Int32} {Q : Int32 → Prop} (h : w_X6_commonDivisor p1 p2 Q) : CT e yX6_commonDivisor cX6_commonDivisor 6 (some .int) 1 [.int p1, .int p2] S0 (pR S0 Q) := by
  refine CT.of (by decide) (Nat.le_of_ble_eq_true rfl) (fun Z hR => ?_)
  rw [w_X6_commonDivisor] at h
  show MW Z e cX6_commonDivisor 6 RX6 1 0 [(0, .int p1), (1, .int p2)] [] S0
  refine m_iload_n dX6_commonDivisor_0 1 rfl rfl ?_
  refine m_istore_n (lv2 := [(2, .int p2), (0, .int p1), (1, .int p2)]) dX6_commonDivisor_1 rfl (by decide) rfl ?_
  refine m_iload_n dX6_commonDivisor_2 1 rfl rfl ?_
  refine m_istore_n (lv2 := [(3, .int p1), (2, .int p2), (0, .int p1), (1, .int p2)]) dX6_commonDivisor_3 rfl (by decide) rfl ?_
  refine m_iconst (v := 0) dX6_commonDivisor_4 (by decide) ?_
  refine m_istore (lv2 := [(4, .int (0 : Int32)), (3, .int p1), (2, .int p2), (0, .int p1), (1, .int p2)]) dX6_commonDivisor_5 (by decide) rfl ?_
  obtain ⟨n, h⟩ := h
  refine m_loc [2, 1, 0] rfl ?_
  refine l_X6_commonDivisor_L7 (fun v7 h => ?_) n p2 p1 (0 : Int32) h
  refine m_iload_n dX6_commonDivisor_34 0 rfl rfl ?_
  exact m_iret hR ⟨_, rfl, rfl, h⟩ dX6_commonDivisor_35
def w_X6_odds (S0 : St) (p1 : Int32) (p2 : Int32) (p3 : Int32) (Q : Int32 → St → Prop) : Prop :=
  (w_X2_hasPerson S0 p1  (fun r1 => ((r1 = 0 → Q (-1 : Int32) S0) ∧ (¬ r1 = 0 → (w_X6_within p3 (0 : Int32) (1 : Int32)  (fun r2 => ((¬ r2 = 0 → (∀ J3 : Prop, J3 = ((w_X5_learn S0  (fun S4 => (∀ J5 : St → Int32 → Prop, J5 = (fun (S6 : St) (x7 : Int32) => (w_X5_all S6  (fun r8 S9 => (w_X6_commonDivisor x7 r8  (fun r10 => ((¬ r10 = 0 → ((¬ p3 = 0 → (¬ r10 = 0 ∧ Q (r8 / r10) S9)) ∧ (p3 = 0 → (¬ r10 = 0 ∧ Q (x7 / r10) S9)))) ∧ (r10 = 0 → Q p3 S9))))))) → ((¬ p2 = (-4 : Int32) → (w_X5_holding S4 p1 p2  (fun r11 S12 => J5 S12 r11))) ∧ (p2 = (-4 : Int32) → (w_X5_holdingNone S4 p1  (fun r13 S14 => J5 S14 r13)))))))) → ((p2 = (-4 : Int32) → J3) ∧ (¬ p2 = (-4 : Int32) → (w_X2_hasBar S0 p2  (fun r15 => ((¬ r15 = 0 → J3) ∧ (r15 = 0 → Q (-1 : Int32) S0)))))))) ∧ (r2 = 0 → Q (-1 : Int32) S0))))))))
set_option maxRecDepth 100000 in
set_option maxHeartbeats 4000000 in
theorem c_X6_odds {e : GE} {S0 : St} {p1 : Int32} {p2 : Int32} {p3 : Int32} {Q : Int32 → St → Prop} (h : w_X6_odds S0 p1 p2 p3 Q) : CT e yX6_odds cX6_odds 7 (some .int) 13 [.ref (e.2.2.1 0), .int p1, .int p2, .int p3] S0 (pI Q) := by
  refine CT.of (by decide) (Nat.le_of_ble_eq_true rfl) (fun Z hR => ?_)
  rw [w_X6_odds] at h
  show MW Z e cX6_odds 7 RX6 13 0 [(0, .ref (e.2.2.1 0)), (1, .int p1), (2, .int p2), (3, .int p3)] [] S0
  refine m_aload_n dX6_odds_0 0 rfl rfl ?_
  refine m_get 0 2 (o_0 e _) rfl inlX6 (by decide) q1_22 rfl dX6_odds_1 ?_
  refine m_iload_n dX6_odds_4 1 rfl rfl ?_
  refine m_callV 11 [.int p1] (c_X2_hasPerson h) (o_11 e _) rfl rfl q16_13 q16_14 q16_15 q1_21 q16_16 t_X2_hasPerson rfl (by omega) (by decide) (Nat.le_of_ble_eq_true rfl) rfl dX6_odds_5 (kR (P := MW Z e cX6_odds 7 RX6 13 8 [(0, .ref (e.2.2.1 0)), (1, .int p1), (2, .int p2), (3, .int p3)]) (fun r1 h => ?_))
  refine m_if_eq (tgt := 20) dX6_odds_8 (by decide) (fun z => ?_) (fun z => ?_)
  · replace h := h.1 z
    refine m_iconst (v := -1) dX6_odds_20 (by decide) ?_
    exact m_iret hR ⟨_, rfl, h⟩ dX6_odds_21
  · replace h := h.2 z
    refine m_iload_n dX6_odds_11 3 rfl rfl ?_
    refine m_iconst (v := 0) dX6_odds_12 (by decide) ?_
    refine m_iconst (v := 1) dX6_odds_13 (by decide) ?_
    refine m_callS [.int p3, .int (0 : Int32), .int (1 : Int32)] (c_X6_within h) q8_19 q8_20 q1_2 q8_21 t_X6_within rfl (by omega) (by decide) (Nat.le_of_ble_eq_true rfl) rfl dX6_odds_14 (kR (P := MW Z e cX6_odds 7 RX6 13 17 [(0, .ref (e.2.2.1 0)), (1, .int p1), (2, .int p2), (3, .int p3)]) (fun r2 h => ?_))
    refine m_if_ne (tgt := 22) dX6_odds_17 (by decide) (fun z => ?_) (fun z => ?_)
    · replace h := h.1 z
      refine m_iload_n dX6_odds_22 2 rfl rfl ?_
      refine m_bipush (v := -4) dX6_odds_23 (by decide) ?_
      obtain ⟨J3, eJ3, h⟩ := jn h
      have kJ3 : J3 → MW Z e cX6_odds 7 RX6 13 41 [(0, .ref (e.2.2.1 0)), (1, .int p1), (2, .int p2), (3, .int p3)] [] S0 := by
        intro  h
        rw [eJ3] at h
        refine m_aload_n dX6_odds_41 0 rfl rfl ?_
        refine m_get 0 6 (o_0 e _) rfl inlX6 (by decide) q2_9 rfl dX6_odds_42 ?_
        refine m_aload_n dX6_odds_45 0 rfl rfl ?_
        refine m_get 0 2 (o_0 e _) rfl inlX6 (by decide) q1_22 rfl dX6_odds_46 ?_
        refine m_aload_n dX6_odds_49 0 rfl rfl ?_
        refine m_get 0 3 (o_0 e _) rfl inlX6 (by decide) q2_2 rfl dX6_odds_50 ?_
        refine m_callV 38 [.ref (e.2.2.1 11), .ref (e.2.2.1 18)] (c_X5_learn h) (o_38 e _) rfl rfl q22_9 q22_10 q22_11 q2_8 q22_12 t_X5_learn rfl (by omega) (by decide) (Nat.le_of_ble_eq_true rfl) rfl dX6_odds_53 (kV (P := MW Z e cX6_odds 7 RX6 13 56 [(0, .ref (e.2.2.1 0)), (1, .int p1), (2, .int p2), (3, .int p3)]) (fun S4 h => ?_))
        refine m_iload_n dX6_odds_56 2 rfl rfl ?_
        refine m_bipush (v := -4) dX6_odds_57 (by decide) ?_
        obtain ⟨J5, eJ5, h⟩ := jn h
        have kJ5 : ∀ (S6 : St) (x7 : Int32), J5 S6 x7 → MW Z e cX6_odds 7 RX6 13 82 [(0, .ref (e.2.2.1 0)), (3, .int p3)] [.int x7] S6 := by
          intro S6 x7 h
          rw [eJ5] at h
          refine m_istore (lv2 := [(4, .int x7), (0, .ref (e.2.2.1 0)), (3, .int p3)]) dX6_odds_82 (by decide) rfl ?_
          refine m_aload_n dX6_odds_84 1 rfl rfl ?_
          refine m_get 0 6 (o_0 e _) rfl inlX6 (by decide) q2_9 rfl dX6_odds_85 ?_
          refine m_callV 38 [] (c_X5_all h) (o_38 e _) rfl rfl q23_10 q23_11 q23_12 q2_8 q23_13 t_X5_all rfl (by omega) (by decide) (Nat.le_of_ble_eq_true rfl) rfl dX6_odds_88 (kI (P := MW Z e cX6_odds 7 RX6 13 91 [(4, .int x7), (0, .ref (e.2.2.1 0)), (3, .int p3)]) (fun r8 S9 h => ?_))
          refine m_istore (lv2 := [(5, .int r8), (4, .int x7), (0, .ref (e.2.2.1 0)), (3, .int p3)]) dX6_odds_91 (by decide) rfl ?_
          refine m_iload dX6_odds_93 1 rfl ?_
          refine m_iload dX6_odds_95 0 rfl ?_
          refine m_callS [.int x7, .int r8] (c_X6_commonDivisor h) q25_20 q25_21 q1_2 q25_22 t_X6_commonDivisor rfl (by omega) (by decide) (Nat.le_of_ble_eq_true rfl) rfl dX6_odds_97 (kR (P := MW Z e cX6_odds 7 RX6 13 100 [(5, .int r8), (4, .int x7), (0, .ref (e.2.2.1 0)), (3, .int p3)]) (fun r10 h => ?_))
          refine m_istore (lv2 := [(6, .int r10), (5, .int r8), (4, .int x7), (0, .ref (e.2.2.1 0)), (3, .int p3)]) dX6_odds_100 (by decide) rfl ?_
          refine m_iload dX6_odds_102 0 rfl ?_
          refine m_if_ne (tgt := 109) dX6_odds_104 (by decide) (fun z => ?_) (fun z => ?_)
          · replace h := h.1 z
            refine m_iload_n dX6_odds_109 4 rfl rfl ?_
            refine m_if_ne (tgt := 118) dX6_odds_110 (by decide) (fun z => ?_) (fun z => ?_)
            · replace h := h.1 z
              refine m_iload dX6_odds_118 1 rfl ?_
              refine m_iload dX6_odds_120 0 rfl ?_
              refine m_idiv dX6_odds_122 h.1 ?_
              replace h := h.2
              exact m_iret hR ⟨_, rfl, h⟩ dX6_odds_123
            · replace h := h.2 z
              refine m_iload dX6_odds_113 2 rfl ?_
              refine m_goto (tgt := 120) dX6_odds_115 (by decide) ?_
              refine m_iload dX6_odds_120 0 rfl ?_
              refine m_idiv dX6_odds_122 h.1 ?_
              replace h := h.2
              exact m_iret hR ⟨_, rfl, h⟩ dX6_odds_123
          · replace h := h.2 z
            refine m_iload_n dX6_odds_107 4 rfl rfl ?_
            exact m_iret hR ⟨_, rfl, h⟩ dX6_odds_108
        refine m_icmp_ne (tgt := 73) dX6_odds_59 (by decide) (fun z => ?_) (fun z => ?_)
        · replace h := h.1 z
          refine m_aload_n dX6_odds_73 0 rfl rfl ?_
          refine m_get 0 6 (o_0 e _) rfl inlX6 (by decide) q2_9 rfl dX6_odds_74 ?_
          refine m_iload_n dX6_odds_77 1 rfl rfl ?_
          refine m_iload_n dX6_odds_78 2 rfl rfl ?_
          refine m_callV 38 [.int p1, .int p2] (c_X5_holding h) (o_38 e _) rfl rfl q25_5 q25_6 q25_7 q2_8 q25_8 t_X5_holding rfl (by omega) (by decide) (Nat.le_of_ble_eq_true rfl) rfl dX6_odds_79 (kI (P := MW Z e cX6_odds 7 RX6 13 82 [(0, .ref (e.2.2.1 0)), (1, .int p1), (2, .int p2), (3, .int p3)]) (fun r11 S12 h => ?_))
          refine m_loc [0, 3] rfl ?_
          exact kJ5 S12 r11 h
        · replace h := h.2 z
          refine m_aload_n dX6_odds_62 0 rfl rfl ?_
          refine m_get 0 6 (o_0 e _) rfl inlX6 (by decide) q2_9 rfl dX6_odds_63 ?_
          refine m_iload_n dX6_odds_66 1 rfl rfl ?_
          refine m_callV 38 [.int p1] (c_X5_holdingNone h) (o_38 e _) rfl rfl q25_1 q25_2 q25_3 q2_8 q25_4 t_X5_holdingNone rfl (by omega) (by decide) (Nat.le_of_ble_eq_true rfl) rfl dX6_odds_67 (kI (P := MW Z e cX6_odds 7 RX6 13 70 [(0, .ref (e.2.2.1 0)), (1, .int p1), (2, .int p2), (3, .int p3)]) (fun r13 S14 h => ?_))
          refine m_goto (tgt := 82) dX6_odds_70 (by decide) ?_
          refine m_loc [0, 3] rfl ?_
          exact kJ5 S14 r13 h
      refine m_icmp_eq (tgt := 41) dX6_odds_25 (by decide) (fun z => ?_) (fun z => ?_)
      · replace h := h.1 z
        exact kJ3  h
      · replace h := h.2 z
        refine m_aload_n dX6_odds_28 0 rfl rfl ?_
        refine m_get 0 2 (o_0 e _) rfl inlX6 (by decide) q1_22 rfl dX6_odds_29 ?_
        refine m_iload_n dX6_odds_32 2 rfl rfl ?_
        refine m_callV 11 [.int p2] (c_X2_hasBar h) (o_11 e _) rfl rfl q15_20 q15_21 q15_22 q1_21 q15_23 t_X2_hasBar rfl (by omega) (by decide) (Nat.le_of_ble_eq_true rfl) rfl dX6_odds_33 (kR (P := MW Z e cX6_odds 7 RX6 13 36 [(0, .ref (e.2.2.1 0)), (1, .int p1), (2, .int p2), (3, .int p3)]) (fun r15 h => ?_))
        refine m_if_ne (tgt := 41) dX6_odds_36 (by decide) (fun z => ?_) (fun z => ?_)
        · replace h := h.1 z
          exact kJ3  h
        · replace h := h.2 z
          refine m_iconst (v := -1) dX6_odds_39 (by decide) ?_
          exact m_iret hR ⟨_, rfl, h⟩ dX6_odds_40
    · replace h := h.2 z
      refine m_iconst (v := -1) dX6_odds_20 (by decide) ?_
      exact m_iret hR ⟨_, rfl, h⟩ dX6_odds_21
def w_X6_isClaim (S0 : St) (p1 : Int32) (p2 : Int32) (p3 : Int32) (Q : Int32 → Prop) : Prop :=
  (w_X2_hasPerson S0 p1  (fun r1 => ((r1 = 0 → Q (0 : Int32)) ∧ (¬ r1 = 0 → (w_X2_hasBar S0 p2  (fun r2 => ((r2 = 0 → Q (0 : Int32)) ∧ (¬ r2 = 0 → (w_X6_within p3 (1 : Int32) (10 : Int32)  (fun r3 => ((r3 = 0 → Q (0 : Int32)) ∧ (¬ r3 = 0 → Q (1 : Int32)))))))))))))
set_option maxRecDepth 100000 in
set_option maxHeartbeats 4000000 in
theorem c_X6_isClaim {e : GE} {S0 : St} {p1 : Int32} {p2 : Int32} {p3 : Int32} {Q : Int32 → Prop} (h : w_X6_isClaim S0 p1 p2 p3 Q) : CT e yX6_isClaim cX6_isClaim 4 (some .boolean) 3 [.ref (e.2.2.1 0), .int p1, .int p2, .int p3] S0 (pR S0 Q) := by
  refine CT.of (by decide) (Nat.le_of_ble_eq_true rfl) (fun Z hR => ?_)
  rw [w_X6_isClaim] at h
  show MW Z e cX6_isClaim 4 RX6 3 0 [(0, .ref (e.2.2.1 0)), (1, .int p1), (2, .int p2), (3, .int p3)] [] S0
  refine m_aload_n dX6_isClaim_0 0 rfl rfl ?_
  refine m_get 0 2 (o_0 e _) rfl inlX6 (by decide) q1_22 rfl dX6_isClaim_1 ?_
  refine m_iload_n dX6_isClaim_4 1 rfl rfl ?_
  refine m_callV 11 [.int p1] (c_X2_hasPerson h) (o_11 e _) rfl rfl q16_13 q16_14 q16_15 q1_21 q16_16 t_X2_hasPerson rfl (by omega) (by decide) (Nat.le_of_ble_eq_true rfl) rfl dX6_isClaim_5 (kR (P := MW Z e cX6_isClaim 4 RX6 3 8 [(0, .ref (e.2.2.1 0)), (1, .int p1), (2, .int p2), (3, .int p3)]) (fun r1 h => ?_))
  refine m_if_eq (tgt := 36) dX6_isClaim_8 (by decide) (fun z => ?_) (fun z => ?_)
  · replace h := h.1 z
    refine m_iconst (v := 0) dX6_isClaim_36 (by decide) ?_
    exact m_zret hR rfl ⟨_, rfl, rfl, h⟩ dX6_isClaim_37
  · replace h := h.2 z
    refine m_aload_n dX6_isClaim_11 0 rfl rfl ?_
    refine m_get 0 2 (o_0 e _) rfl inlX6 (by decide) q1_22 rfl dX6_isClaim_12 ?_
    refine m_iload_n dX6_isClaim_15 2 rfl rfl ?_
    refine m_callV 11 [.int p2] (c_X2_hasBar h) (o_11 e _) rfl rfl q15_20 q15_21 q15_22 q1_21 q15_23 t_X2_hasBar rfl (by omega) (by decide) (Nat.le_of_ble_eq_true rfl) rfl dX6_isClaim_16 (kR (P := MW Z e cX6_isClaim 4 RX6 3 19 [(0, .ref (e.2.2.1 0)), (1, .int p1), (2, .int p2), (3, .int p3)]) (fun r2 h => ?_))
    refine m_if_eq (tgt := 36) dX6_isClaim_19 (by decide) (fun z => ?_) (fun z => ?_)
    · replace h := h.1 z
      refine m_iconst (v := 0) dX6_isClaim_36 (by decide) ?_
      exact m_zret hR rfl ⟨_, rfl, rfl, h⟩ dX6_isClaim_37
    · replace h := h.2 z
      refine m_iload_n dX6_isClaim_22 3 rfl rfl ?_
      refine m_iconst (v := 1) dX6_isClaim_23 (by decide) ?_
      refine m_bipush (v := 10) dX6_isClaim_24 (by decide) ?_
      refine m_callS [.int p3, .int (1 : Int32), .int (10 : Int32)] (c_X6_within h) q8_19 q8_20 q1_2 q8_21 t_X6_within rfl (by omega) (by decide) (Nat.le_of_ble_eq_true rfl) rfl dX6_isClaim_26 (kR (P := MW Z e cX6_isClaim 4 RX6 3 29 [(0, .ref (e.2.2.1 0)), (1, .int p1), (2, .int p2), (3, .int p3)]) (fun r3 h => ?_))
      refine m_if_eq (tgt := 36) dX6_isClaim_29 (by decide) (fun z => ?_) (fun z => ?_)
      · replace h := h.1 z
        refine m_iconst (v := 0) dX6_isClaim_36 (by decide) ?_
        exact m_zret hR rfl ⟨_, rfl, rfl, h⟩ dX6_isClaim_37
      · replace h := h.2 z
        refine m_iconst (v := 1) dX6_isClaim_32 (by decide) ?_
        refine m_goto (tgt := 37) dX6_isClaim_33 (by decide) ?_
        exact m_zret hR rfl ⟨_, rfl, rfl, h⟩ dX6_isClaim_37
def X5_canHaveHeld_L24 (S8 : St) (f5 : Int32) (f6 : Int32) (f7 : Int32) (Q : Int32 → St → Prop) (kx : Prop) : Nat → Int32 → Prop
  | 0 => fun _ => False
  | n + 1 => (fun (rec : Int32 → Prop) => fun (v4 : Int32) => ((((1 : Int32) <<< ((S8.1 3901 0) &&& 31)) ≤ v4 → kx) ∧ (¬ ((1 : Int32) <<< ((S8.1 3901 0) &&& 31)) ≤ v4 → (w_X5_isIn v4 f5  (fun r9 => ((r9 = 0 → ∀ x10 : Int32, x10 = v4 + (1 : Int32) → rec x10) ∧ (¬ r9 = 0 → (w_X5_waysBeside S8 v4  (fun r11 => ((r11 ≤ 0 → ∀ x12 : Int32, x12 = v4 + (1 : Int32) → rec x12) ∧ (¬ r11 ≤ 0 → (w_X5_winters S8 f6 (v4 ^^^ ((1 : Int32) <<< (f5 &&& 31))) f7  (fun r13 => ((r13 ≤ 0 → ∀ x14 : Int32, x14 = v4 + (1 : Int32) → rec x14) ∧ (¬ r13 ≤ 0 → Q (1 : Int32) S8))))))))))))))) (X5_canHaveHeld_L24 S8 f5 f6 f7 Q kx n)
def w_X5_canHaveHeld (S0 : St) (p1 : Int32) (p2 : Int32) (p3 : Int32) (Q : Int32 → St → Prop) : Prop :=
  (w_X5_gather S0 p2  (fun S1 => (vp_in p2 6 ∧ (w_X5_leaves S1 p1 p2 p3  (fun r2 => ∀ x3 : Int32, x3 = (S1.1 40 p2.toNatClampNeg) - r2 → (∃ n : Nat, X5_canHaveHeld_L24 S1 p1 p2 x3 Q (Q (0 : Int32) S1) n (0 : Int32)))))))
set_option maxRecDepth 100000 in
set_option maxHeartbeats 4000000 in
theorem l_X5_canHaveHeld_L24 {Z : Zt} {e : GE} {S8 : St} {f5 : Int32} {f6 : Int32} {f7 : Int32} {Q : Int32 → St → Prop} {kx : Prop} (hR : RT Z e (some .boolean) (pI Q)) (hk : kx  → MW Z e cX5_canHaveHeld 6 RX5 12 77 [] [] S8) : ∀ (n : Nat) (v4 : Int32), X5_canHaveHeld_L24 S8 f5 f6 f7 Q kx n v4 → MW Z e cX5_canHaveHeld 6 RX5 12 24 [(0, .ref (e.2.2.1 38)), (1, .int f5), (2, .int f6), (4, .int f7), (5, .int v4)] [] S8 := by
  intro n
  induction n with
  | zero =>
    intro v4 h
    exact h.elim
  | succ n ih =>
    intro v4 h
    rw [X5_canHaveHeld_L24] at h
    refine m_iload dX5_canHaveHeld_24 4 rfl ?_
    refine m_iconst (v := 1) dX5_canHaveHeld_26 (by decide) ?_
    refine m_aload_n dX5_canHaveHeld_27 0 rfl rfl ?_
    refine m_get 38 1 (o_38 e _) rfl inlX5 (by decide) q4_20 rfl dX5_canHaveHeld_28 ?_
    refine m_ishl dX5_canHaveHeld_31 ?_
    refine m_icmp_ge (tgt := 77) dX5_canHaveHeld_32 (by decide) (fun z => ?_) (fun z => ?_)
    · replace h := h.1 z
      refine m_loc [] rfl ?_
      exact hk  h
    · replace h := h.2 z
      refine m_iload dX5_canHaveHeld_35 4 rfl ?_
      refine m_iload_n dX5_canHaveHeld_37 1 rfl rfl ?_
      refine m_callS [.int v4, .int f5] (c_X5_isIn h) q23_3 q23_4 q2_8 q23_5 t_X5_isIn rfl (by omega) (by decide) (Nat.le_of_ble_eq_true rfl) rfl dX5_canHaveHeld_38 (kR (P := MW Z e cX5_canHaveHeld 6 RX5 12 41 [(0, .ref (e.2.2.1 38)), (1, .int f5), (2, .int f6), (4, .int f7), (5, .int v4)]) (fun r9 h => ?_))
      refine m_if_eq (tgt := 71) dX5_canHaveHeld_41 (by decide) (fun z => ?_) (fun z => ?_)
      · replace h := h.1 z
        obtain ⟨x10, ex10⟩ : ∃ y : Int32, y = v4 + (1 : Int32) := ⟨_, rfl⟩
        replace h := h x10 ex10
        refine m_iinc (v := x10) (lv2 := [(5, .int x10), (0, .ref (e.2.2.1 38)), (1, .int f5), (2, .int f6), (4, .int f7)]) dX5_canHaveHeld_71 4 rfl ex10.symm (by decide) rfl ?_
        refine m_goto (tgt := 24) dX5_canHaveHeld_74 (by decide) ?_
        refine m_loc [1, 2, 3, 4, 0] rfl ?_
        exact ih x10 h
      · replace h := h.2 z
        refine m_aload_n dX5_canHaveHeld_44 0 rfl rfl ?_
        refine m_iload dX5_canHaveHeld_45 4 rfl ?_
        refine m_callV 38 [.int v4] (c_X5_waysBeside h) (o_38 e _) rfl rfl q23_23 q24_0 q24_1 q2_8 q24_2 t_X5_waysBeside rfl (by omega) (by decide) (Nat.le_of_ble_eq_true rfl) rfl dX5_canHaveHeld_47 (kR (P := MW Z e cX5_canHaveHeld 6 RX5 12 50 [(0, .ref (e.2.2.1 38)), (1, .int f5), (2, .int f6), (4, .int f7), (5, .int v4)]) (fun r11 h => ?_))
        refine m_if_le (tgt := 71) dX5_canHaveHeld_50 (by decide) (fun z => ?_) (fun z => ?_)
        · replace h := h.1 z
          obtain ⟨x12, ex12⟩ : ∃ y : Int32, y = v4 + (1 : Int32) := ⟨_, rfl⟩
          replace h := h x12 ex12
          refine m_iinc (v := x12) (lv2 := [(5, .int x12), (0, .ref (e.2.2.1 38)), (1, .int f5), (2, .int f6), (4, .int f7)]) dX5_canHaveHeld_71 4 rfl ex12.symm (by decide) rfl ?_
          refine m_goto (tgt := 24) dX5_canHaveHeld_74 (by decide) ?_
          refine m_loc [1, 2, 3, 4, 0] rfl ?_
          exact ih x12 h
        · replace h := h.2 z
          refine m_aload_n dX5_canHaveHeld_53 0 rfl rfl ?_
          refine m_iload_n dX5_canHaveHeld_54 2 rfl rfl ?_
          refine m_iload dX5_canHaveHeld_55 4 rfl ?_
          refine m_iconst (v := 1) dX5_canHaveHeld_57 (by decide) ?_
          refine m_iload_n dX5_canHaveHeld_58 1 rfl rfl ?_
          refine m_ishl dX5_canHaveHeld_59 ?_
          refine m_ixor dX5_canHaveHeld_60 ?_
          refine m_iload dX5_canHaveHeld_61 3 rfl ?_
          refine m_callV 38 [.int f6, .int (v4 ^^^ ((1 : Int32) <<< (f5 &&& 31))), .int f7] (c_X5_winters h) (o_38 e _) rfl rfl q22_20 q22_21 q22_22 q2_8 q22_23 t_X5_winters rfl (by omega) (by decide) (Nat.le_of_ble_eq_true rfl) rfl dX5_canHaveHeld_63 (kR (P := MW Z e cX5_canHaveHeld 6 RX5 12 66 [(0, .ref (e.2.2.1 38)), (1, .int f5), (2, .int f6), (4, .int f7), (5, .int v4)]) (fun r13 h => ?_))
          refine m_if_le (tgt := 71) dX5_canHaveHeld_66 (by decide) (fun z => ?_) (fun z => ?_)
          · replace h := h.1 z
            obtain ⟨x14, ex14⟩ : ∃ y : Int32, y = v4 + (1 : Int32) := ⟨_, rfl⟩
            replace h := h x14 ex14
            refine m_iinc (v := x14) (lv2 := [(5, .int x14), (0, .ref (e.2.2.1 38)), (1, .int f5), (2, .int f6), (4, .int f7)]) dX5_canHaveHeld_71 4 rfl ex14.symm (by decide) rfl ?_
            refine m_goto (tgt := 24) dX5_canHaveHeld_74 (by decide) ?_
            refine m_loc [1, 2, 3, 4, 0] rfl ?_
            exact ih x14 h
          · replace h := h.2 z
            refine m_iconst (v := 1) dX5_canHaveHeld_69 (by decide) ?_
            exact m_zret hR rfl ⟨_, rfl, h⟩ dX5_canHaveHeld_70
set_option maxRecDepth 100000 in
set_option maxHeartbeats 4000000 in
theorem c_X5_canHaveHeld {e : GE} {S0 : St} {p1 : Int32} {p2 : Int32} {p3 : Int32} {Q : Int32 → St → Prop} (h : w_X5_canHaveHeld S0 p1 p2 p3 Q) : CT e yX5_canHaveHeld cX5_canHaveHeld 6 (some .boolean) 12 [.ref (e.2.2.1 38), .int p1, .int p2, .int p3] S0 (pI Q) := by
  refine CT.of (by decide) (Nat.le_of_ble_eq_true rfl) (fun Z hR => ?_)
  rw [w_X5_canHaveHeld] at h
  show MW Z e cX5_canHaveHeld 6 RX5 12 0 [(0, .ref (e.2.2.1 38)), (1, .int p1), (2, .int p2), (3, .int p3)] [] S0
  refine m_aload_n dX5_canHaveHeld_0 0 rfl rfl ?_
  refine m_iload_n dX5_canHaveHeld_1 2 rfl rfl ?_
  refine m_callV 38 [.int p2] (c_X5_gather h) (o_38 e _) rfl rfl q23_14 q23_15 q23_16 q2_8 q23_17 t_X5_gather rfl (by omega) (by decide) (Nat.le_of_ble_eq_true rfl) rfl dX5_canHaveHeld_2 (kV (P := MW Z e cX5_canHaveHeld 6 RX5 12 5 [(0, .ref (e.2.2.1 38)), (1, .int p1), (2, .int p2), (3, .int p3)]) (fun S1 h => ?_))
  refine m_aload_n dX5_canHaveHeld_5 0 rfl rfl ?_
  refine m_get 38 3 (o_38 e _) rfl inlX5 (by decide) q4_22 rfl dX5_canHaveHeld_6 ?_
  refine m_iload_n dX5_canHaveHeld_9 2 rfl rfl ?_
  refine m_iald 40 (a_40 e _) h.1 dX5_canHaveHeld_10 ?_
  replace h := h.2
  refine m_aload_n dX5_canHaveHeld_11 0 rfl rfl ?_
  refine m_iload_n dX5_canHaveHeld_12 1 rfl rfl ?_
  refine m_iload_n dX5_canHaveHeld_13 2 rfl rfl ?_
  refine m_iload_n dX5_canHaveHeld_14 3 rfl rfl ?_
  refine m_callV 38 [.int p1, .int p2, .int p3] (c_X5_leaves h) (o_38 e _) rfl rfl q23_6 q23_7 q23_8 q2_8 q23_9 t_X5_leaves rfl (by omega) (by decide) (Nat.le_of_ble_eq_true rfl) rfl dX5_canHaveHeld_15 (kR (P := MW Z e cX5_canHaveHeld 6 RX5 12 18 [(0, .ref (e.2.2.1 38)), (1, .int p1), (2, .int p2), (3, .int p3)]) (fun r2 h => ?_))
  refine m_isub dX5_canHaveHeld_18 ?_
  refine m_topi (fun x3 ex3 => ?_)
  replace h := h x3 ex3
  refine m_istore (lv2 := [(4, .int x3), (0, .ref (e.2.2.1 38)), (1, .int p1), (2, .int p2), (3, .int p3)]) dX5_canHaveHeld_19 (by decide) rfl ?_
  refine m_iconst (v := 0) dX5_canHaveHeld_21 (by decide) ?_
  refine m_istore (lv2 := [(5, .int (0 : Int32)), (4, .int x3), (0, .ref (e.2.2.1 38)), (1, .int p1), (2, .int p2), (3, .int p3)]) dX5_canHaveHeld_22 (by decide) rfl ?_
  obtain ⟨n, h⟩ := h
  refine m_loc [2, 3, 4, 1, 0] rfl ?_
  refine l_X5_canHaveHeld_L24 hR (fun h => ?_) n (0 : Int32) h
  refine m_iconst (v := 0) dX5_canHaveHeld_77 (by decide) ?_
  exact m_zret hR rfl ⟨_, rfl, h⟩ dX5_canHaveHeld_78
def w_X6_claim (S0 : St) (p1 : Int32) (p2 : Int32) (p3 : Int32) (Q : Int32 → St → Prop) : Prop :=
  (w_X6_isClaim S0 p1 p2 p3  (fun r1 => ((¬ r1 = 0 → (w_X5_learn S0  (fun S2 => (w_X5_canHaveHeld S2 p1 p2 p3  (fun r3 S4 => ((r3 = 0 → Q (0 : Int32) S4) ∧ (¬ r3 = 0 → Q (1 : Int32) S4))))))) ∧ (r1 = 0 → Q (-1 : Int32) S0))))
set_option maxRecDepth 100000 in
set_option maxHeartbeats 4000000 in
theorem c_X6_claim {e : GE} {S0 : St} {p1 : Int32} {p2 : Int32} {p3 : Int32} {Q : Int32 → St → Prop} (h : w_X6_claim S0 p1 p2 p3 Q) : CT e yX6_claim cX6_claim 4 (some .int) 13 [.ref (e.2.2.1 0), .int p1, .int p2, .int p3] S0 (pI Q) := by
  refine CT.of (by decide) (Nat.le_of_ble_eq_true rfl) (fun Z hR => ?_)
  rw [w_X6_claim] at h
  show MW Z e cX6_claim 4 RX6 13 0 [(0, .ref (e.2.2.1 0)), (1, .int p1), (2, .int p2), (3, .int p3)] [] S0
  refine m_aload_n dX6_claim_0 0 rfl rfl ?_
  refine m_iload_n dX6_claim_1 1 rfl rfl ?_
  refine m_iload_n dX6_claim_2 2 rfl rfl ?_
  refine m_iload_n dX6_claim_3 3 rfl rfl ?_
  refine m_callV 0 [.int p1, .int p2, .int p3] (c_X6_isClaim h) (o_0 e _) rfl rfl q26_7 q26_8 q26_9 q1_2 q26_10 t_X6_isClaim rfl (by omega) (by decide) (Nat.le_of_ble_eq_true rfl) rfl dX6_claim_4 (kR (P := MW Z e cX6_claim 4 RX6 13 7 [(0, .ref (e.2.2.1 0)), (1, .int p1), (2, .int p2), (3, .int p3)]) (fun r1 h => ?_))
  refine m_if_ne (tgt := 12) dX6_claim_7 (by decide) (fun z => ?_) (fun z => ?_)
  · replace h := h.1 z
    refine m_aload_n dX6_claim_12 0 rfl rfl ?_
    refine m_get 0 6 (o_0 e _) rfl inlX6 (by decide) q2_9 rfl dX6_claim_13 ?_
    refine m_aload_n dX6_claim_16 0 rfl rfl ?_
    refine m_get 0 2 (o_0 e _) rfl inlX6 (by decide) q1_22 rfl dX6_claim_17 ?_
    refine m_aload_n dX6_claim_20 0 rfl rfl ?_
    refine m_get 0 3 (o_0 e _) rfl inlX6 (by decide) q2_2 rfl dX6_claim_21 ?_
    refine m_callV 38 [.ref (e.2.2.1 11), .ref (e.2.2.1 18)] (c_X5_learn h) (o_38 e _) rfl rfl q22_9 q22_10 q22_11 q2_8 q22_12 t_X5_learn rfl (by omega) (by decide) (Nat.le_of_ble_eq_true rfl) rfl dX6_claim_24 (kV (P := MW Z e cX6_claim 4 RX6 13 27 [(0, .ref (e.2.2.1 0)), (1, .int p1), (2, .int p2), (3, .int p3)]) (fun S2 h => ?_))
    refine m_aload_n dX6_claim_27 0 rfl rfl ?_
    refine m_get 0 6 (o_0 e _) rfl inlX6 (by decide) q2_9 rfl dX6_claim_28 ?_
    refine m_iload_n dX6_claim_31 1 rfl rfl ?_
    refine m_iload_n dX6_claim_32 2 rfl rfl ?_
    refine m_iload_n dX6_claim_33 3 rfl rfl ?_
    refine m_callV 38 [.int p1, .int p2, .int p3] (c_X5_canHaveHeld h) (o_38 e _) rfl rfl q26_11 q26_12 q26_13 q2_8 q26_14 t_X5_canHaveHeld rfl (by omega) (by decide) (Nat.le_of_ble_eq_true rfl) rfl dX6_claim_34 (kI (P := MW Z e cX6_claim 4 RX6 13 37 [(0, .ref (e.2.2.1 0)), (1, .int p1), (2, .int p2), (3, .int p3)]) (fun r3 S4 h => ?_))
    refine m_if_eq (tgt := 44) dX6_claim_37 (by decide) (fun z => ?_) (fun z => ?_)
    · replace h := h.1 z
      refine m_iconst (v := 0) dX6_claim_44 (by decide) ?_
      exact m_iret hR ⟨_, rfl, h⟩ dX6_claim_45
    · replace h := h.2 z
      refine m_iconst (v := 1) dX6_claim_40 (by decide) ?_
      refine m_goto (tgt := 45) dX6_claim_41 (by decide) ?_
      exact m_iret hR ⟨_, rfl, h⟩ dX6_claim_45
  · replace h := h.2 z
    refine m_iconst (v := -1) dX6_claim_10 (by decide) ?_
    exact m_iret hR ⟨_, rfl, h⟩ dX6_claim_11
def X6_saves_L30 (f5 : Int32) (f6 : Int32) (f7 : Int32) (Q : Int32 → St → Prop) (kx : St → Prop) : Nat → St → Int32 → Prop
  | 0 => fun _ _ => False
  | n + 1 => (fun (rec : St → Int32 → Prop) => fun (S3 : St) (v4 : Int32) => (((10 : Int32) ≤ v4 → kx S3) ∧ (¬ (10 : Int32) ≤ v4 → (∀ J8 : St → Prop, J8 = (fun (S9 : St) => (((10 : Int32) < (f7 + v4) → ∀ x10 : Int32, x10 = v4 + (1 : Int32) → rec S9 x10) ∧ (¬ (10 : Int32) < (f7 + v4) → (w_X5_canHaveHeld S9 f5 f6 (f7 + v4)  (fun r11 S12 => ((r11 = 0 → ∀ x13 : Int32, x13 = v4 + (1 : Int32) → rec S12 x13) ∧ (¬ r11 = 0 → Q (f7 + v4) S12))))))) → (((f7 - v4) < (1 : Int32) → J8 S3) ∧ (¬ (f7 - v4) < (1 : Int32) → (w_X5_canHaveHeld S3 f5 f6 (f7 - v4)  (fun r14 S15 => ((r14 = 0 → J8 S15) ∧ (¬ r14 = 0 → Q (f7 - v4) S15)))))))))) (X6_saves_L30 f5 f6 f7 Q kx n)
def w_X6_saves (S0 : St) (p1 : Int32) (p2 : Int32) (p3 : Int32) (Q : Int32 → St → Prop) : Prop :=
  (w_X6_isClaim S0 p1 p2 p3  (fun r1 => ((¬ r1 = 0 → (w_X5_learn S0  (fun S2 => (∃ n : Nat, X6_saves_L30 p1 p2 p3 Q (fun (S17 : St) => Q (-9 : Int32) S17) n S2 (0 : Int32))))) ∧ (r1 = 0 → Q (-1 : Int32) S0))))
set_option maxRecDepth 100000 in
set_option maxHeartbeats 4000000 in
theorem l_X6_saves_L30 {Z : Zt} {e : GE} {f5 : Int32} {f6 : Int32} {f7 : Int32} {Q : Int32 → St → Prop} {kx : St → Prop} (hR : RT Z e (some .int) (pI Q)) (hk : ∀ (S16 : St), kx S16 → MW Z e cX6_saves 5 RX6 13 102 [] [] S16) : ∀ (n : Nat) (S3 : St) (v4 : Int32), X6_saves_L30 f5 f6 f7 Q kx n S3 v4 → MW Z e cX6_saves 5 RX6 13 30 [(0, .ref (e.2.2.1 0)), (1, .int f5), (2, .int f6), (3, .int f7), (4, .int v4)] [] S3 := by
  intro n
  induction n with
  | zero =>
    intro S3 v4 h
    exact h.elim
  | succ n ih =>
    intro S3 v4 h
    rw [X6_saves_L30] at h
    refine m_iload dX6_saves_30 4 rfl ?_
    refine m_bipush (v := 10) dX6_saves_32 (by decide) ?_
    refine m_icmp_ge (tgt := 102) dX6_saves_34 (by decide) (fun z => ?_) (fun z => ?_)
    · replace h := h.1 z
      refine m_loc [] rfl ?_
      exact hk S3 h
    · replace h := h.2 z
      refine m_iload_n dX6_saves_37 3 rfl rfl ?_
      refine m_iload dX6_saves_38 4 rfl ?_
      refine m_isub dX6_saves_40 ?_
      refine m_iconst (v := 1) dX6_saves_41 (by decide) ?_
      obtain ⟨J8, eJ8, h⟩ := jn h
      have kJ8 : ∀ (S9 : St), J8 S9 → MW Z e cX6_saves 5 RX6 13 66 [(0, .ref (e.2.2.1 0)), (1, .int f5), (2, .int f6), (3, .int f7), (4, .int v4)] [] S9 := by
        intro S9 h
        rw [eJ8] at h
        refine m_iload_n dX6_saves_66 3 rfl rfl ?_
        refine m_iload dX6_saves_67 4 rfl ?_
        refine m_iadd dX6_saves_69 ?_
        refine m_bipush (v := 10) dX6_saves_70 (by decide) ?_
        refine m_icmp_gt (tgt := 96) dX6_saves_72 (by decide) (fun z => ?_) (fun z => ?_)
        · replace h := h.1 z
          obtain ⟨x10, ex10⟩ : ∃ y : Int32, y = v4 + (1 : Int32) := ⟨_, rfl⟩
          replace h := h x10 ex10
          refine m_iinc (v := x10) (lv2 := [(4, .int x10), (0, .ref (e.2.2.1 0)), (1, .int f5), (2, .int f6), (3, .int f7)]) dX6_saves_96 4 rfl ex10.symm (by decide) rfl ?_
          refine m_goto (tgt := 30) dX6_saves_99 (by decide) ?_
          refine m_loc [1, 2, 3, 4, 0] rfl ?_
          exact ih S9 x10 h
        · replace h := h.2 z
          refine m_aload_n dX6_saves_75 0 rfl rfl ?_
          refine m_get 0 6 (o_0 e _) rfl inlX6 (by decide) q2_9 rfl dX6_saves_76 ?_
          refine m_iload_n dX6_saves_79 1 rfl rfl ?_
          refine m_iload_n dX6_saves_80 2 rfl rfl ?_
          refine m_iload_n dX6_saves_81 3 rfl rfl ?_
          refine m_iload dX6_saves_82 4 rfl ?_
          refine m_iadd dX6_saves_84 ?_
          refine m_callV 38 [.int f5, .int f6, .int (f7 + v4)] (c_X5_canHaveHeld h) (o_38 e _) rfl rfl q26_11 q26_12 q26_13 q2_8 q26_14 t_X5_canHaveHeld rfl (by omega) (by decide) (Nat.le_of_ble_eq_true rfl) rfl dX6_saves_85 (kI (P := MW Z e cX6_saves 5 RX6 13 88 [(0, .ref (e.2.2.1 0)), (1, .int f5), (2, .int f6), (3, .int f7), (4, .int v4)]) (fun r11 S12 h => ?_))
          refine m_if_eq (tgt := 96) dX6_saves_88 (by decide) (fun z => ?_) (fun z => ?_)
          · replace h := h.1 z
            obtain ⟨x13, ex13⟩ : ∃ y : Int32, y = v4 + (1 : Int32) := ⟨_, rfl⟩
            replace h := h x13 ex13
            refine m_iinc (v := x13) (lv2 := [(4, .int x13), (0, .ref (e.2.2.1 0)), (1, .int f5), (2, .int f6), (3, .int f7)]) dX6_saves_96 4 rfl ex13.symm (by decide) rfl ?_
            refine m_goto (tgt := 30) dX6_saves_99 (by decide) ?_
            refine m_loc [1, 2, 3, 4, 0] rfl ?_
            exact ih S12 x13 h
          · replace h := h.2 z
            refine m_iload_n dX6_saves_91 3 rfl rfl ?_
            refine m_iload dX6_saves_92 4 rfl ?_
            refine m_iadd dX6_saves_94 ?_
            exact m_iret hR ⟨_, rfl, h⟩ dX6_saves_95
      refine m_icmp_lt (tgt := 66) dX6_saves_42 (by decide) (fun z => ?_) (fun z => ?_)
      · replace h := h.1 z
        exact kJ8 S3 h
      · replace h := h.2 z
        refine m_aload_n dX6_saves_45 0 rfl rfl ?_
        refine m_get 0 6 (o_0 e _) rfl inlX6 (by decide) q2_9 rfl dX6_saves_46 ?_
        refine m_iload_n dX6_saves_49 1 rfl rfl ?_
        refine m_iload_n dX6_saves_50 2 rfl rfl ?_
        refine m_iload_n dX6_saves_51 3 rfl rfl ?_
        refine m_iload dX6_saves_52 4 rfl ?_
        refine m_isub dX6_saves_54 ?_
        refine m_callV 38 [.int f5, .int f6, .int (f7 - v4)] (c_X5_canHaveHeld h) (o_38 e _) rfl rfl q26_11 q26_12 q26_13 q2_8 q26_14 t_X5_canHaveHeld rfl (by omega) (by decide) (Nat.le_of_ble_eq_true rfl) rfl dX6_saves_55 (kI (P := MW Z e cX6_saves 5 RX6 13 58 [(0, .ref (e.2.2.1 0)), (1, .int f5), (2, .int f6), (3, .int f7), (4, .int v4)]) (fun r14 S15 h => ?_))
        refine m_if_eq (tgt := 66) dX6_saves_58 (by decide) (fun z => ?_) (fun z => ?_)
        · replace h := h.1 z
          exact kJ8 S15 h
        · replace h := h.2 z
          refine m_iload_n dX6_saves_61 3 rfl rfl ?_
          refine m_iload dX6_saves_62 4 rfl ?_
          refine m_isub dX6_saves_64 ?_
          exact m_iret hR ⟨_, rfl, h⟩ dX6_saves_65
set_option maxRecDepth 100000 in
set_option maxHeartbeats 4000000 in
theorem c_X6_saves {e : GE} {S0 : St} {p1 : Int32} {p2 : Int32} {p3 : Int32} {Q : Int32 → St → Prop} (h : w_X6_saves S0 p1 p2 p3 Q) : CT e yX6_saves cX6_saves 5 (some .int) 13 [.ref (e.2.2.1 0), .int p1, .int p2, .int p3] S0 (pI Q) := by
  refine CT.of (by decide) (Nat.le_of_ble_eq_true rfl) (fun Z hR => ?_)
  rw [w_X6_saves] at h
  show MW Z e cX6_saves 5 RX6 13 0 [(0, .ref (e.2.2.1 0)), (1, .int p1), (2, .int p2), (3, .int p3)] [] S0
  refine m_aload_n dX6_saves_0 0 rfl rfl ?_
  refine m_iload_n dX6_saves_1 1 rfl rfl ?_
  refine m_iload_n dX6_saves_2 2 rfl rfl ?_
  refine m_iload_n dX6_saves_3 3 rfl rfl ?_
  refine m_callV 0 [.int p1, .int p2, .int p3] (c_X6_isClaim h) (o_0 e _) rfl rfl q26_7 q26_8 q26_9 q1_2 q26_10 t_X6_isClaim rfl (by omega) (by decide) (Nat.le_of_ble_eq_true rfl) rfl dX6_saves_4 (kR (P := MW Z e cX6_saves 5 RX6 13 7 [(0, .ref (e.2.2.1 0)), (1, .int p1), (2, .int p2), (3, .int p3)]) (fun r1 h => ?_))
  refine m_if_ne (tgt := 12) dX6_saves_7 (by decide) (fun z => ?_) (fun z => ?_)
  · replace h := h.1 z
    refine m_aload_n dX6_saves_12 0 rfl rfl ?_
    refine m_get 0 6 (o_0 e _) rfl inlX6 (by decide) q2_9 rfl dX6_saves_13 ?_
    refine m_aload_n dX6_saves_16 0 rfl rfl ?_
    refine m_get 0 2 (o_0 e _) rfl inlX6 (by decide) q1_22 rfl dX6_saves_17 ?_
    refine m_aload_n dX6_saves_20 0 rfl rfl ?_
    refine m_get 0 3 (o_0 e _) rfl inlX6 (by decide) q2_2 rfl dX6_saves_21 ?_
    refine m_callV 38 [.ref (e.2.2.1 11), .ref (e.2.2.1 18)] (c_X5_learn h) (o_38 e _) rfl rfl q22_9 q22_10 q22_11 q2_8 q22_12 t_X5_learn rfl (by omega) (by decide) (Nat.le_of_ble_eq_true rfl) rfl dX6_saves_24 (kV (P := MW Z e cX6_saves 5 RX6 13 27 [(0, .ref (e.2.2.1 0)), (1, .int p1), (2, .int p2), (3, .int p3)]) (fun S2 h => ?_))
    refine m_iconst (v := 0) dX6_saves_27 (by decide) ?_
    refine m_istore (lv2 := [(4, .int (0 : Int32)), (0, .ref (e.2.2.1 0)), (1, .int p1), (2, .int p2), (3, .int p3)]) dX6_saves_28 (by decide) rfl ?_
    obtain ⟨n, h⟩ := h
    refine m_loc [1, 2, 3, 4, 0] rfl ?_
    refine l_X6_saves_L30 hR (fun S17 h => ?_) n S2 (0 : Int32) h
    refine m_bipush (v := -9) dX6_saves_102 (by decide) ?_
    exact m_iret hR ⟨_, rfl, h⟩ dX6_saves_104
  · replace h := h.2 z
    refine m_iconst (v := -1) dX6_saves_10 (by decide) ?_
    exact m_iret hR ⟨_, rfl, h⟩ dX6_saves_11
def X5_spread_L59 (wr : St → Int32 → Int32 → Int32 → Int32 → Int32 → (St → Prop) → Prop) (f4 : Int32) (f5 : Int32) (f6 : Int32) (f7 : Int32) (f8 : Int32) (kx : St → Prop) : Nat → St → Int32 → Prop
  | 0 => fun _ _ => False
  | n + 1 => (fun (rec : St → Int32 → Prop) => fun (S2 : St) (v3 : Int32) => (((10 : Int32) < v3 → kx S2) ∧ (¬ (10 : Int32) < v3 → (w_X5_leaves S2 f7 f4 v3  (fun r9 => (wr S2 f4 f5 f6 (f7 + (1 : Int32)) (f8 + r9)  (fun S10 => ∀ x11 : Int32, x11 = v3 + (1 : Int32) → rec S10 x11))))))) (X5_spread_L59 wr f4 f5 f6 f7 f8 kx n)
def w_X5_spread : Nat → St → Int32 → Int32 → Int32 → Int32 → Int32 → (St → Prop) → Prop
  | 0 => fun _ _ _ _ _ _ _ => False
  | d + 1 => fun S0 p2 p3 p4 p5 p6 Q => (fun (wr : St → Int32 → Int32 → Int32 → Int32 → Int32 → (St → Prop) → Prop) => ((p5 < (S0.1 3901 0) → (w_X5_isIn p3 p5  (fun r1 => ((¬ r1 = 0 → (∃ n : Nat, X5_spread_L59 wr p2 p3 p4 p5 p6 (fun (S13 : St) => Q S13) n S0 (1 : Int32))) ∧ (r1 = 0 → (wr S0 p2 p3 p4 (p5 + (1 : Int32)) p6  (fun S14 => Q S14))))))) ∧ (¬ p5 < (S0.1 3901 0) → (w_X6_within p6 (0 : Int32) (270 : Int32)  (fun r15 => ((r15 = 0 → Q S0) ∧ (¬ r15 = 0 → (vp_in p6 271 ∧ (vp_in p6 271 ∧ ∀ S16 : St, S16 = setA S0 45 (upd (S0.1 45) p6.toNatClampNeg ((S0.1 45 p6.toNatClampNeg) + p4)) → Q S16))))))))) (w_X5_spread d)
set_option maxRecDepth 100000 in
set_option maxHeartbeats 4000000 in
theorem l_X5_spread_L59 {Z : Zt} {e : GE} {wr : St → Int32 → Int32 → Int32 → Int32 → Int32 → (St → Prop) → Prop} {f4 : Int32} {f5 : Int32} {f6 : Int32} {f7 : Int32} {f8 : Int32} {kx : St → Prop} {d0 : Nat} (hrec : ∀ (S0 : St) (p2 : Int32) (p3 : Int32) (p4 : Int32) (p5 : Int32) (p6 : Int32) (Q : St → Prop), wr S0 p2 p3 p4 p5 p6 Q → CT e yX5_spread cX5_spread 7 none (d0 + 2) [.ref (e.2.2.1 38), .int p2, .int p3, .int p4, .int p5, .int p6] S0 (pV Q)) (hk : ∀ (S12 : St), kx S12 → MW Z e cX5_spread 7 RX5 (d0 + 1 + 2) 95 [] [] S12) : ∀ (n : Nat) (S2 : St) (v3 : Int32), X5_spread_L59 wr f4 f5 f6 f7 f8 kx n S2 v3 → MW Z e cX5_spread 7 RX5 (d0 + 1 + 2) 59 [(0, .ref (e.2.2.1 38)), (1, .int f4), (2, .int f5), (3, .int f6), (4, .int f7), (5, .int f8), (6, .int v3)] [] S2 := by
  intro n
  induction n with
  | zero =>
    intro S2 v3 h
    exact h.elim
  | succ n ih =>
    intro S2 v3 h
    rw [X5_spread_L59] at h
    refine m_iload dX5_spread_59 6 rfl ?_
    refine m_bipush (v := 10) dX5_spread_61 (by decide) ?_
    refine m_icmp_gt (tgt := 95) dX5_spread_63 (by decide) (fun z => ?_) (fun z => ?_)
    · replace h := h.1 z
      refine m_loc [] rfl ?_
      exact hk S2 h
    · replace h := h.2 z
      refine m_aload_n dX5_spread_66 0 rfl rfl ?_
      refine m_iload_n dX5_spread_67 1 rfl rfl ?_
      refine m_iload_n dX5_spread_68 2 rfl rfl ?_
      refine m_iload_n dX5_spread_69 3 rfl rfl ?_
      refine m_iload dX5_spread_70 4 rfl ?_
      refine m_iconst (v := 1) dX5_spread_72 (by decide) ?_
      refine m_iadd dX5_spread_73 ?_
      refine m_iload dX5_spread_74 5 rfl ?_
      refine m_aload_n dX5_spread_76 0 rfl rfl ?_
      refine m_iload dX5_spread_77 4 rfl ?_
      refine m_iload_n dX5_spread_79 1 rfl rfl ?_
      refine m_iload dX5_spread_80 6 rfl ?_
      refine m_callV 38 [.int f7, .int f4, .int v3] (c_X5_leaves h) (o_38 e _) rfl rfl q23_6 q23_7 q23_8 q2_8 q23_9 t_X5_leaves rfl (by omega) (by decide) (Nat.le_of_ble_eq_true rfl) rfl dX5_spread_82 (kR (P := MW Z e cX5_spread 7 RX5 (d0 + 1 + 2) 85 [(0, .ref (e.2.2.1 38)), (1, .int f4), (2, .int f5), (3, .int f6), (4, .int f7), (5, .int f8), (6, .int v3)]) (fun r9 h => ?_))
      refine m_iadd dX5_spread_85 ?_
      refine m_callS [.ref (e.2.2.1 38), .int f4, .int f5, .int f6, .int (f7 + (1 : Int32)), .int (f8 + r9)] (hrec _ _ _ _ _ _ _ h) q27_22 q27_23 q2_8 q28_0 t_X5_spread rfl (by omega) (by decide) (Nat.le_of_ble_eq_true rfl) rfl dX5_spread_86 (kV (P := MW Z e cX5_spread 7 RX5 (d0 + 1 + 2) 89 [(0, .ref (e.2.2.1 38)), (1, .int f4), (2, .int f5), (3, .int f6), (4, .int f7), (5, .int f8), (6, .int v3)]) (fun S10 h => ?_))
      obtain ⟨x11, ex11⟩ : ∃ y : Int32, y = v3 + (1 : Int32) := ⟨_, rfl⟩
      replace h := h x11 ex11
      refine m_iinc (v := x11) (lv2 := [(6, .int x11), (0, .ref (e.2.2.1 38)), (1, .int f4), (2, .int f5), (3, .int f6), (4, .int f7), (5, .int f8)]) dX5_spread_89 6 rfl ex11.symm (by decide) rfl ?_
      refine m_goto (tgt := 59) dX5_spread_92 (by decide) ?_
      refine m_loc [1, 2, 3, 4, 5, 6, 0] rfl ?_
      exact ih S10 x11 h
set_option maxRecDepth 100000 in
set_option maxHeartbeats 4000000 in
theorem c_X5_spread {e : GE} : ∀ (d0 : Nat) (S0 : St) (p2 : Int32) (p3 : Int32) (p4 : Int32) (p5 : Int32) (p6 : Int32) (Q : St → Prop), w_X5_spread d0 S0 p2 p3 p4 p5 p6 Q → CT e yX5_spread cX5_spread 7 none (d0 + 2) [.ref (e.2.2.1 38), .int p2, .int p3, .int p4, .int p5, .int p6] S0 (pV Q) := by
  intro d0
  induction d0 with
  | zero =>
    intro S0 p2 p3 p4 p5 p6 Q h
    exact h.elim
  | succ d0 hrec =>
    intro S0 p2 p3 p4 p5 p6 Q h
    rw [w_X5_spread] at h
    refine CT.of (by decide) (Nat.le_of_ble_eq_true rfl) (fun Z hR => ?_)
    show MW Z e cX5_spread 7 RX5 (d0 + 1 + 2) 0 [(0, .ref (e.2.2.1 38)), (1, .int p2), (2, .int p3), (3, .int p4), (4, .int p5), (5, .int p6)] [] S0
    refine m_iload dX5_spread_0 4 rfl ?_
    refine m_aload_n dX5_spread_2 0 rfl rfl ?_
    refine m_get 38 1 (o_38 e _) rfl inlX5 (by decide) q4_20 rfl dX5_spread_3 ?_
    refine m_icmp_lt (tgt := 33) dX5_spread_6 (by decide) (fun z => ?_) (fun z => ?_)
    · replace h := h.1 z
      refine m_iload_n dX5_spread_33 2 rfl rfl ?_
      refine m_iload dX5_spread_34 4 rfl ?_
      refine m_callS [.int p3, .int p5] (c_X5_isIn h) q23_3 q23_4 q2_8 q23_5 t_X5_isIn rfl (by omega) (by decide) (Nat.le_of_ble_eq_true rfl) rfl dX5_spread_36 (kR (P := MW Z e cX5_spread 7 RX5 (d0 + 1 + 2) 39 [(0, .ref (e.2.2.1 38)), (1, .int p2), (2, .int p3), (3, .int p4), (4, .int p5), (5, .int p6)]) (fun r1 h => ?_))
      refine m_if_ne (tgt := 56) dX5_spread_39 (by decide) (fun z => ?_) (fun z => ?_)
      · replace h := h.1 z
        refine m_iconst (v := 1) dX5_spread_56 (by decide) ?_
        refine m_istore (lv2 := [(6, .int (1 : Int32)), (0, .ref (e.2.2.1 38)), (1, .int p2), (2, .int p3), (3, .int p4), (4, .int p5), (5, .int p6)]) dX5_spread_57 (by decide) rfl ?_
        obtain ⟨n, h⟩ := h
        refine m_loc [1, 2, 3, 4, 5, 6, 0] rfl ?_
        refine l_X5_spread_L59 hrec (fun S13 h => ?_) n S0 (1 : Int32) h
        exact m_vret hR ⟨rfl, h⟩ dX5_spread_95
      · replace h := h.2 z
        refine m_aload_n dX5_spread_42 0 rfl rfl ?_
        refine m_iload_n dX5_spread_43 1 rfl rfl ?_
        refine m_iload_n dX5_spread_44 2 rfl rfl ?_
        refine m_iload_n dX5_spread_45 3 rfl rfl ?_
        refine m_iload dX5_spread_46 4 rfl ?_
        refine m_iconst (v := 1) dX5_spread_48 (by decide) ?_
        refine m_iadd dX5_spread_49 ?_
        refine m_iload dX5_spread_50 5 rfl ?_
        refine m_callS [.ref (e.2.2.1 38), .int p2, .int p3, .int p4, .int (p5 + (1 : Int32)), .int p6] (hrec _ _ _ _ _ _ _ h) q27_22 q27_23 q2_8 q28_0 t_X5_spread rfl (by omega) (by decide) (Nat.le_of_ble_eq_true rfl) rfl dX5_spread_52 (kV (P := MW Z e cX5_spread 7 RX5 (d0 + 1 + 2) 55 [(0, .ref (e.2.2.1 38)), (1, .int p2), (2, .int p3), (3, .int p4), (4, .int p5), (5, .int p6)]) (fun S14 h => ?_))
        exact m_vret hR ⟨rfl, h⟩ dX5_spread_55
    · replace h := h.2 z
      refine m_iload dX5_spread_9 5 rfl ?_
      refine m_iconst (v := 0) dX5_spread_11 (by decide) ?_
      refine m_sipush (v := 270) dX5_spread_12 (by decide) ?_
      refine m_callSN [.int p6, .int (0 : Int32), .int (270 : Int32)] (c_X6_within h) nk_5_105 q8_20 q1_2 q8_21 t_X6_within rfl (by omega) (by decide) (Nat.le_of_ble_eq_true rfl) rfl dX5_spread_15 (kR (P := MW Z e cX5_spread 7 RX5 (d0 + 1 + 2) 18 [(0, .ref (e.2.2.1 38)), (1, .int p2), (2, .int p3), (3, .int p4), (4, .int p5), (5, .int p6)]) (fun r15 h => ?_))
      refine m_if_eq (tgt := 32) dX5_spread_18 (by decide) (fun z => ?_) (fun z => ?_)
      · replace h := h.1 z
        exact m_vret hR ⟨rfl, h⟩ dX5_spread_32
      · replace h := h.2 z
        refine m_aload_n dX5_spread_21 0 rfl rfl ?_
        refine m_get 38 8 (o_38 e _) rfl inlX5 (by decide) q5_3 rfl dX5_spread_22 ?_
        refine m_iload dX5_spread_25 5 rfl ?_
        refine m_dup2 dX5_spread_27 rfl rfl ?_
        refine m_iald 45 (a_45 e _) h.1 dX5_spread_28 ?_
        replace h := h.2
        refine m_iload_n dX5_spread_29 3 rfl rfl ?_
        refine m_iadd dX5_spread_30 ?_
        refine m_iast 45 (a_45 e _) (aw_45 e _) h.1 dX5_spread_31 (fun S16 eS16 => ?_)
        replace h := h.2 S16 eS16
        exact m_vret hR ⟨rfl, h⟩ dX5_spread_32
def X5_leftAtWorst_L15 (f5 : Int32) (kx : St → Prop) : Nat → St → Int32 → Prop
  | 0 => fun _ _ => False
  | n + 1 => (fun (rec : St → Int32 → Prop) => fun (S3 : St) (v4 : Int32) => ((((1 : Int32) <<< ((S3.1 3901 0) &&& 31)) ≤ v4 → kx S3) ∧ (¬ ((1 : Int32) <<< ((S3.1 3901 0) &&& 31)) ≤ v4 → (w_X5_waysBeside S3 v4  (fun r6 => (w_X5_spread 8 S3 f5 v4 r6 (0 : Int32) (0 : Int32)  (fun S7 => ∀ x8 : Int32, x8 = v4 + (1 : Int32) → rec S7 x8))))))) (X5_leftAtWorst_L15 f5 kx n)
def X5_leftAtWorst_L48 (S13 : St) (kx : Int32 → Prop) : Nat → Int32 → Int32 → Prop
  | 0 => fun _ _ => False
  | n + 1 => (fun (rec : Int32 → Int32 → Prop) => fun (v11 : Int32) (v12 : Int32) => (((270 : Int32) < v12 → kx v11) ∧ (¬ (270 : Int32) < v12 → (vp_in v12 271 ∧ (∀ x14 : Int32, x14 = (if v11 < (S13.1 45 v12.toNatClampNeg) then (S13.1 45 v12.toNatClampNeg) else v11) → ∀ x15 : Int32, x15 = v12 + (1 : Int32) → rec x14 x15))))) (X5_leftAtWorst_L48 S13 kx n)
def w_X5_leftAtWorst (S0 : St) (p1 : Int32) (Q : Int32 → St → Prop) : Prop :=
  (w_X5_gather S0 p1  (fun S1 => (∀ S2 : St, S2 = setA S1 45 (fun _ => (0 : Int32)) → (∃ n : Nat, X5_leftAtWorst_L15 p1 (fun (S10 : St) => (∃ n : Nat, X5_leftAtWorst_L48 S10 (fun (v17 : Int32) => Q v17 S10) n (0 : Int32) (0 : Int32))) n S2 (0 : Int32)))))
set_option maxRecDepth 100000 in
set_option maxHeartbeats 4000000 in
theorem l_X5_leftAtWorst_L15 {Z : Zt} {e : GE} {f5 : Int32} {kx : St → Prop} (hk : ∀ (S9 : St), kx S9 → MW Z e cX5_leftAtWorst 4 RX5 11 44 [(0, .ref (e.2.2.1 38))] [] S9) : ∀ (n : Nat) (S3 : St) (v4 : Int32), X5_leftAtWorst_L15 f5 kx n S3 v4 → MW Z e cX5_leftAtWorst 4 RX5 11 15 [(0, .ref (e.2.2.1 38)), (1, .int f5), (2, .int v4)] [] S3 := by
  intro n
  induction n with
  | zero =>
    intro S3 v4 h
    exact h.elim
  | succ n ih =>
    intro S3 v4 h
    rw [X5_leftAtWorst_L15] at h
    refine m_iload_n dX5_leftAtWorst_15 2 rfl rfl ?_
    refine m_iconst (v := 1) dX5_leftAtWorst_16 (by decide) ?_
    refine m_aload_n dX5_leftAtWorst_17 0 rfl rfl ?_
    refine m_get 38 1 (o_38 e _) rfl inlX5 (by decide) q4_20 rfl dX5_leftAtWorst_18 ?_
    refine m_ishl dX5_leftAtWorst_21 ?_
    refine m_icmp_ge (tgt := 44) dX5_leftAtWorst_22 (by decide) (fun z => ?_) (fun z => ?_)
    · replace h := h.1 z
      refine m_loc [0] rfl ?_
      exact hk S3 h
    · replace h := h.2 z
      refine m_aload_n dX5_leftAtWorst_25 0 rfl rfl ?_
      refine m_iload_n dX5_leftAtWorst_26 1 rfl rfl ?_
      refine m_iload_n dX5_leftAtWorst_27 2 rfl rfl ?_
      refine m_aload_n dX5_leftAtWorst_28 0 rfl rfl ?_
      refine m_iload_n dX5_leftAtWorst_29 2 rfl rfl ?_
      refine m_callV 38 [.int v4] (c_X5_waysBeside h) (o_38 e _) rfl rfl q23_23 q24_0 q24_1 q2_8 q24_2 t_X5_waysBeside rfl (by omega) (by decide) (Nat.le_of_ble_eq_true rfl) rfl dX5_leftAtWorst_30 (kR (P := MW Z e cX5_leftAtWorst 4 RX5 11 33 [(0, .ref (e.2.2.1 38)), (1, .int f5), (2, .int v4)]) (fun r6 h => ?_))
      refine m_iconst (v := 0) dX5_leftAtWorst_33 (by decide) ?_
      refine m_iconst (v := 0) dX5_leftAtWorst_34 (by decide) ?_
      refine m_callS [.ref (e.2.2.1 38), .int f5, .int v4, .int r6, .int (0 : Int32), .int (0 : Int32)] (c_X5_spread 8 _ _ _ _ _ _ _ h) q27_22 q27_23 q2_8 q28_0 t_X5_spread rfl (by omega) (by decide) (Nat.le_of_ble_eq_true rfl) rfl dX5_leftAtWorst_35 (kV (P := MW Z e cX5_leftAtWorst 4 RX5 11 38 [(0, .ref (e.2.2.1 38)), (1, .int f5), (2, .int v4)]) (fun S7 h => ?_))
      obtain ⟨x8, ex8⟩ : ∃ y : Int32, y = v4 + (1 : Int32) := ⟨_, rfl⟩
      replace h := h x8 ex8
      refine m_iinc (v := x8) (lv2 := [(2, .int x8), (0, .ref (e.2.2.1 38)), (1, .int f5)]) dX5_leftAtWorst_38 2 rfl ex8.symm (by decide) rfl ?_
      refine m_goto (tgt := 15) dX5_leftAtWorst_41 (by decide) ?_
      refine m_loc [1, 2, 0] rfl ?_
      exact ih S7 x8 h
set_option maxRecDepth 100000 in
set_option maxHeartbeats 4000000 in
theorem l_X5_leftAtWorst_L48 {Z : Zt} {e : GE} {S13 : St} {kx : Int32 → Prop} (hk : ∀ (v16 : Int32), kx v16 → MW Z e cX5_leftAtWorst 4 RX5 11 72 [(2, .int v16)] [] S13) : ∀ (n : Nat) (v11 : Int32) (v12 : Int32), X5_leftAtWorst_L48 S13 kx n v11 v12 → MW Z e cX5_leftAtWorst 4 RX5 11 48 [(0, .ref (e.2.2.1 38)), (2, .int v11), (3, .int v12)] [] S13 := by
  intro n
  induction n with
  | zero =>
    intro v11 v12 h
    exact h.elim
  | succ n ih =>
    intro v11 v12 h
    rw [X5_leftAtWorst_L48] at h
    refine m_iload_n dX5_leftAtWorst_48 2 rfl rfl ?_
    refine m_sipush (v := 270) dX5_leftAtWorst_49 (by decide) ?_
    refine m_icmp_gt (tgt := 72) dX5_leftAtWorst_52 (by decide) (fun z => ?_) (fun z => ?_)
    · replace h := h.1 z
      refine m_loc [1] rfl ?_
      exact hk v11 h
    · replace h := h.2 z
      refine m_iload_n dX5_leftAtWorst_55 1 rfl rfl ?_
      refine m_aload_n dX5_leftAtWorst_56 0 rfl rfl ?_
      refine m_get 38 8 (o_38 e _) rfl inlX5 (by decide) q5_3 rfl dX5_leftAtWorst_57 ?_
      refine m_iload_n dX5_leftAtWorst_60 2 rfl rfl ?_
      refine m_iald 45 (a_45 e _) h.1 dX5_leftAtWorst_61 ?_
      replace h := h.2
      refine m_mmax q27_19 q27_20 q20_4 q27_21 (by omega) (Nat.le_of_ble_eq_true rfl) dX5_leftAtWorst_62 ?_
      refine m_topi (fun x14 ex14 => ?_)
      replace h := h x14 ex14
      refine m_istore_n (lv2 := [(2, .int x14), (0, .ref (e.2.2.1 38)), (3, .int v12)]) dX5_leftAtWorst_65 rfl (by decide) rfl ?_
      obtain ⟨x15, ex15⟩ : ∃ y : Int32, y = v12 + (1 : Int32) := ⟨_, rfl⟩
      replace h := h x15 ex15
      refine m_iinc (v := x15) (lv2 := [(3, .int x15), (2, .int x14), (0, .ref (e.2.2.1 38))]) dX5_leftAtWorst_66 2 rfl ex15.symm (by decide) rfl ?_
      refine m_goto (tgt := 48) dX5_leftAtWorst_69 (by decide) ?_
      refine m_loc [2, 1, 0] rfl ?_
      exact ih x14 x15 h
set_option maxRecDepth 100000 in
set_option maxHeartbeats 4000000 in
theorem c_X5_leftAtWorst {e : GE} {S0 : St} {p1 : Int32} {Q : Int32 → St → Prop} (h : w_X5_leftAtWorst S0 p1 Q) : CT e yX5_leftAtWorst cX5_leftAtWorst 4 (some .int) 11 [.ref (e.2.2.1 38), .int p1] S0 (pI Q) := by
  refine CT.of (by decide) (Nat.le_of_ble_eq_true rfl) (fun Z hR => ?_)
  rw [w_X5_leftAtWorst] at h
  show MW Z e cX5_leftAtWorst 4 RX5 11 0 [(0, .ref (e.2.2.1 38)), (1, .int p1)] [] S0
  refine m_aload_n dX5_leftAtWorst_0 0 rfl rfl ?_
  refine m_iload_n dX5_leftAtWorst_1 1 rfl rfl ?_
  refine m_callV 38 [.int p1] (c_X5_gather h) (o_38 e _) rfl rfl q23_14 q23_15 q23_16 q2_8 q23_17 t_X5_gather rfl (by omega) (by decide) (Nat.le_of_ble_eq_true rfl) rfl dX5_leftAtWorst_2 (kV (P := MW Z e cX5_leftAtWorst 4 RX5 11 5 [(0, .ref (e.2.2.1 38)), (1, .int p1)]) (fun S1 h => ?_))
  refine m_aload_n dX5_leftAtWorst_5 0 rfl rfl ?_
  refine m_get 38 8 (o_38 e _) rfl inlX5 (by decide) q5_3 rfl dX5_leftAtWorst_6 ?_
  refine m_iconst (v := 0) dX5_leftAtWorst_9 (by decide) ?_
  refine m_callS [.ref (e.2.2.1 45), .int (0 : Int32)] c_fill_45 q23_18 q4_1 q4_2 q4_3 t_fill rfl (by omega) (by decide) (Nat.le_of_ble_eq_true rfl) rfl dX5_leftAtWorst_10 (kV (P := MW Z e cX5_leftAtWorst 4 RX5 11 13 [(0, .ref (e.2.2.1 38)), (1, .int p1)]) (fun S2 eS2 => ?_))
  replace h := h S2 eS2
  refine m_iconst (v := 0) dX5_leftAtWorst_13 (by decide) ?_
  refine m_istore_n (lv2 := [(2, .int (0 : Int32)), (0, .ref (e.2.2.1 38)), (1, .int p1)]) dX5_leftAtWorst_14 rfl (by decide) rfl ?_
  obtain ⟨n, h⟩ := h
  refine m_loc [1, 2, 0] rfl ?_
  refine l_X5_leftAtWorst_L15 (fun S10 h => ?_) n S2 (0 : Int32) h
  refine m_iconst (v := 0) dX5_leftAtWorst_44 (by decide) ?_
  refine m_istore_n (lv2 := [(2, .int (0 : Int32)), (0, .ref (e.2.2.1 38))]) dX5_leftAtWorst_45 rfl (by decide) rfl ?_
  refine m_iconst (v := 0) dX5_leftAtWorst_46 (by decide) ?_
  refine m_istore_n (lv2 := [(3, .int (0 : Int32)), (2, .int (0 : Int32)), (0, .ref (e.2.2.1 38))]) dX5_leftAtWorst_47 rfl (by decide) rfl ?_
  obtain ⟨n, h⟩ := h
  refine m_loc [2, 1, 0] rfl ?_
  refine l_X5_leftAtWorst_L48 (fun v17 h => ?_) n (0 : Int32) (0 : Int32) h
  refine m_iload_n dX5_leftAtWorst_72 0 rfl rfl ?_
  exact m_iret hR ⟨_, rfl, h⟩ dX5_leftAtWorst_73
def X6_scrape_L48 (f9 : Int32) (kx : St → Int32 → Int32 → Prop) : Nat → St → Int32 → Int32 → Int32 → Prop
  | 0 => fun _ _ _ _ => False
  | n + 1 => (fun (rec : St → Int32 → Int32 → Int32 → Prop) => fun (S5 : St) (v6 : Int32) (v7 : Int32) (v8 : Int32) => (((S5.1 1200 0) ≤ v8 → kx S5 v6 v7) ∧ (¬ (S5.1 1200 0) ≤ v8 → (vp_in v8 6 ∧ ((¬ (S5.1 23 v8.toNatClampNeg) = (-9 : Int32) → ∀ x10 : Int32, x10 = v8 + (1 : Int32) → rec S5 v6 v7 x10) ∧ ((S5.1 23 v8.toNatClampNeg) = (-9 : Int32) → (w_X5_leftAtWorst S5 v8  (fun r11 S12 => ((v6 = (-9 : Int32) → ∀ x13 : Int32, x13 = v8 + (1 : Int32) → rec S12 v8 r11 x13) ∧ (¬ v6 = (-9 : Int32) → ((v7 ≤ r11 → ∀ x14 : Int32, x14 = v8 + (1 : Int32) → rec S12 v6 v7 x14) ∧ (¬ v7 ≤ r11 → ∀ x15 : Int32, x15 = v8 + (1 : Int32) → rec S12 v8 r11 x15)))))))))))) (X6_scrape_L48 f9 kx n)
def w_X6_scrape (S0 : St) (p1 : Int32) (Q : Int32 → St → Prop) : Prop :=
  (w_X6_within p1 (0 : Int32) (1 : Int32)  (fun r1 => ((¬ r1 = 0 → (w_X5_learn S0  (fun S2 => (w_X5_all S2  (fun r3 S4 => ((¬ r3 = 0 → (∃ n : Nat, X6_scrape_L48 p1 (fun (S19 : St) (v20 : Int32) (v21 : Int32) => ((¬ p1 = 0 → Q v21 S19) ∧ (p1 = 0 → Q v20 S19))) n S4 (-9 : Int32) (-9 : Int32) (0 : Int32))) ∧ (r3 = 0 → Q (-9 : Int32) S4))))))) ∧ (r1 = 0 → Q (-1 : Int32) S0))))
set_option maxRecDepth 100000 in
set_option maxHeartbeats 4000000 in
theorem l_X6_scrape_L48 {Z : Zt} {e : GE} {f9 : Int32} {kx : St → Int32 → Int32 → Prop} (hk : ∀ (S16 : St) (v17 : Int32) (v18 : Int32), kx S16 v17 v18 → MW Z e cX6_scrape 6 RX6 13 110 [(1, .int f9), (2, .int v17), (3, .int v18)] [] S16) : ∀ (n : Nat) (S5 : St) (v6 : Int32) (v7 : Int32) (v8 : Int32), X6_scrape_L48 f9 kx n S5 v6 v7 v8 → MW Z e cX6_scrape 6 RX6 13 48 [(0, .ref (e.2.2.1 0)), (1, .int f9), (2, .int v6), (3, .int v7), (4, .int v8)] [] S5 := by
  intro n
  induction n with
  | zero =>
    intro S5 v6 v7 v8 h
    exact h.elim
  | succ n ih =>
    intro S5 v6 v7 v8 h
    rw [X6_scrape_L48] at h
    refine m_iload dX6_scrape_48 4 rfl ?_
    refine m_aload_n dX6_scrape_50 0 rfl rfl ?_
    refine m_get 0 2 (o_0 e _) rfl inlX6 (by decide) q1_22 rfl dX6_scrape_51 ?_
    refine m_get 11 0 (o_11 e _) rfl inlX2 (by decide) q25_0 rfl dX6_scrape_54 ?_
    refine m_icmp_ge (tgt := 110) dX6_scrape_57 (by decide) (fun z => ?_) (fun z => ?_)
    · replace h := h.1 z
      refine m_loc [1, 2, 3] rfl ?_
      exact hk S5 v6 v7 h
    · replace h := h.2 z
      refine m_aload_n dX6_scrape_60 0 rfl rfl ?_
      refine m_get 0 3 (o_0 e _) rfl inlX6 (by decide) q2_2 rfl dX6_scrape_61 ?_
      refine m_get 18 5 (o_18 e _) rfl inlX1 (by decide) q21_8 rfl dX6_scrape_64 ?_
      refine m_iload dX6_scrape_67 4 rfl ?_
      refine m_iald 23 (a_23 e _) h.1 dX6_scrape_69 ?_
      replace h := h.2
      refine m_bipush (v := -9) dX6_scrape_70 (by decide) ?_
      refine m_icmp_ne (tgt := 104) dX6_scrape_72 (by decide) (fun z => ?_) (fun z => ?_)
      · replace h := h.1 z
        obtain ⟨x10, ex10⟩ : ∃ y : Int32, y = v8 + (1 : Int32) := ⟨_, rfl⟩
        replace h := h x10 ex10
        refine m_iinc (v := x10) (lv2 := [(4, .int x10), (0, .ref (e.2.2.1 0)), (1, .int f9), (2, .int v6), (3, .int v7)]) dX6_scrape_104 4 rfl ex10.symm (by decide) rfl ?_
        refine m_goto (tgt := 48) dX6_scrape_107 (by decide) ?_
        refine m_loc [1, 2, 3, 4, 0] rfl ?_
        exact ih S5 v6 v7 x10 h
      · replace h := h.2 z
        refine m_aload_n dX6_scrape_75 0 rfl rfl ?_
        refine m_get 0 6 (o_0 e _) rfl inlX6 (by decide) q2_9 rfl dX6_scrape_76 ?_
        refine m_iload dX6_scrape_79 4 rfl ?_
        refine m_callV 38 [.int v8] (c_X5_leftAtWorst h) (o_38 e _) rfl rfl q27_15 q27_16 q27_17 q2_8 q27_18 t_X5_leftAtWorst rfl (by omega) (by decide) (Nat.le_of_ble_eq_true rfl) rfl dX6_scrape_81 (kI (P := MW Z e cX6_scrape 6 RX6 13 84 [(0, .ref (e.2.2.1 0)), (1, .int f9), (2, .int v6), (3, .int v7), (4, .int v8)]) (fun r11 S12 h => ?_))
        refine m_istore (lv2 := [(5, .int r11), (0, .ref (e.2.2.1 0)), (1, .int f9), (2, .int v6), (3, .int v7), (4, .int v8)]) dX6_scrape_84 (by decide) rfl ?_
        refine m_iload_n dX6_scrape_86 3 rfl rfl ?_
        refine m_bipush (v := -9) dX6_scrape_87 (by decide) ?_
        refine m_icmp_eq (tgt := 98) dX6_scrape_89 (by decide) (fun z => ?_) (fun z => ?_)
        · replace h := h.1 z
          refine m_iload dX6_scrape_98 5 rfl ?_
          refine m_istore_n (lv2 := [(2, .int v8), (5, .int r11), (0, .ref (e.2.2.1 0)), (1, .int f9), (3, .int v7), (4, .int v8)]) dX6_scrape_100 rfl (by decide) rfl ?_
          refine m_iload dX6_scrape_101 1 rfl ?_
          refine m_istore_n (lv2 := [(3, .int r11), (2, .int v8), (5, .int r11), (0, .ref (e.2.2.1 0)), (1, .int f9), (4, .int v8)]) dX6_scrape_103 rfl (by decide) rfl ?_
          obtain ⟨x13, ex13⟩ : ∃ y : Int32, y = v8 + (1 : Int32) := ⟨_, rfl⟩
          replace h := h x13 ex13
          refine m_iinc (v := x13) (lv2 := [(4, .int x13), (3, .int r11), (2, .int v8), (5, .int r11), (0, .ref (e.2.2.1 0)), (1, .int f9)]) dX6_scrape_104 5 rfl ex13.symm (by decide) rfl ?_
          refine m_goto (tgt := 48) dX6_scrape_107 (by decide) ?_
          refine m_loc [4, 5, 2, 1, 0] rfl ?_
          exact ih S12 v8 r11 x13 h
        · replace h := h.2 z
          refine m_iload dX6_scrape_92 0 rfl ?_
          refine m_iload_n dX6_scrape_94 4 rfl rfl ?_
          refine m_icmp_ge (tgt := 104) dX6_scrape_95 (by decide) (fun z => ?_) (fun z => ?_)
          · replace h := h.1 z
            obtain ⟨x14, ex14⟩ : ∃ y : Int32, y = v8 + (1 : Int32) := ⟨_, rfl⟩
            replace h := h x14 ex14
            refine m_iinc (v := x14) (lv2 := [(4, .int x14), (5, .int r11), (0, .ref (e.2.2.1 0)), (1, .int f9), (2, .int v6), (3, .int v7)]) dX6_scrape_104 5 rfl ex14.symm (by decide) rfl ?_
            refine m_goto (tgt := 48) dX6_scrape_107 (by decide) ?_
            refine m_loc [2, 3, 4, 5, 0] rfl ?_
            exact ih S12 v6 v7 x14 h
          · replace h := h.2 z
            refine m_iload dX6_scrape_98 5 rfl ?_
            refine m_istore_n (lv2 := [(2, .int v8), (5, .int r11), (0, .ref (e.2.2.1 0)), (1, .int f9), (3, .int v7), (4, .int v8)]) dX6_scrape_100 rfl (by decide) rfl ?_
            refine m_iload dX6_scrape_101 1 rfl ?_
            refine m_istore_n (lv2 := [(3, .int r11), (2, .int v8), (5, .int r11), (0, .ref (e.2.2.1 0)), (1, .int f9), (4, .int v8)]) dX6_scrape_103 rfl (by decide) rfl ?_
            obtain ⟨x15, ex15⟩ : ∃ y : Int32, y = v8 + (1 : Int32) := ⟨_, rfl⟩
            replace h := h x15 ex15
            refine m_iinc (v := x15) (lv2 := [(4, .int x15), (3, .int r11), (2, .int v8), (5, .int r11), (0, .ref (e.2.2.1 0)), (1, .int f9)]) dX6_scrape_104 5 rfl ex15.symm (by decide) rfl ?_
            refine m_goto (tgt := 48) dX6_scrape_107 (by decide) ?_
            refine m_loc [4, 5, 2, 1, 0] rfl ?_
            exact ih S12 v8 r11 x15 h
set_option maxRecDepth 100000 in
set_option maxHeartbeats 4000000 in
theorem c_X6_scrape {e : GE} {S0 : St} {p1 : Int32} {Q : Int32 → St → Prop} (h : w_X6_scrape S0 p1 Q) : CT e yX6_scrape cX6_scrape 6 (some .int) 13 [.ref (e.2.2.1 0), .int p1] S0 (pI Q) := by
  refine CT.of (by decide) (Nat.le_of_ble_eq_true rfl) (fun Z hR => ?_)
  rw [w_X6_scrape] at h
  show MW Z e cX6_scrape 6 RX6 13 0 [(0, .ref (e.2.2.1 0)), (1, .int p1)] [] S0
  refine m_iload_n dX6_scrape_0 1 rfl rfl ?_
  refine m_iconst (v := 0) dX6_scrape_1 (by decide) ?_
  refine m_iconst (v := 1) dX6_scrape_2 (by decide) ?_
  refine m_callS [.int p1, .int (0 : Int32), .int (1 : Int32)] (c_X6_within h) q8_19 q8_20 q1_2 q8_21 t_X6_within rfl (by omega) (by decide) (Nat.le_of_ble_eq_true rfl) rfl dX6_scrape_3 (kR (P := MW Z e cX6_scrape 6 RX6 13 6 [(0, .ref (e.2.2.1 0)), (1, .int p1)]) (fun r1 h => ?_))
  refine m_if_ne (tgt := 11) dX6_scrape_6 (by decide) (fun z => ?_) (fun z => ?_)
  · replace h := h.1 z
    refine m_aload_n dX6_scrape_11 0 rfl rfl ?_
    refine m_get 0 6 (o_0 e _) rfl inlX6 (by decide) q2_9 rfl dX6_scrape_12 ?_
    refine m_aload_n dX6_scrape_15 0 rfl rfl ?_
    refine m_get 0 2 (o_0 e _) rfl inlX6 (by decide) q1_22 rfl dX6_scrape_16 ?_
    refine m_aload_n dX6_scrape_19 0 rfl rfl ?_
    refine m_get 0 3 (o_0 e _) rfl inlX6 (by decide) q2_2 rfl dX6_scrape_20 ?_
    refine m_callV 38 [.ref (e.2.2.1 11), .ref (e.2.2.1 18)] (c_X5_learn h) (o_38 e _) rfl rfl q22_9 q22_10 q22_11 q2_8 q22_12 t_X5_learn rfl (by omega) (by decide) (Nat.le_of_ble_eq_true rfl) rfl dX6_scrape_23 (kV (P := MW Z e cX6_scrape 6 RX6 13 26 [(0, .ref (e.2.2.1 0)), (1, .int p1)]) (fun S2 h => ?_))
    refine m_aload_n dX6_scrape_26 0 rfl rfl ?_
    refine m_get 0 6 (o_0 e _) rfl inlX6 (by decide) q2_9 rfl dX6_scrape_27 ?_
    refine m_callV 38 [] (c_X5_all h) (o_38 e _) rfl rfl q23_10 q23_11 q23_12 q2_8 q23_13 t_X5_all rfl (by omega) (by decide) (Nat.le_of_ble_eq_true rfl) rfl dX6_scrape_30 (kI (P := MW Z e cX6_scrape 6 RX6 13 33 [(0, .ref (e.2.2.1 0)), (1, .int p1)]) (fun r3 S4 h => ?_))
    refine m_if_ne (tgt := 39) dX6_scrape_33 (by decide) (fun z => ?_) (fun z => ?_)
    · replace h := h.1 z
      refine m_bipush (v := -9) dX6_scrape_39 (by decide) ?_
      refine m_istore_n (lv2 := [(2, .int (-9 : Int32)), (0, .ref (e.2.2.1 0)), (1, .int p1)]) dX6_scrape_41 rfl (by decide) rfl ?_
      refine m_bipush (v := -9) dX6_scrape_42 (by decide) ?_
      refine m_istore_n (lv2 := [(3, .int (-9 : Int32)), (2, .int (-9 : Int32)), (0, .ref (e.2.2.1 0)), (1, .int p1)]) dX6_scrape_44 rfl (by decide) rfl ?_
      refine m_iconst (v := 0) dX6_scrape_45 (by decide) ?_
      refine m_istore (lv2 := [(4, .int (0 : Int32)), (3, .int (-9 : Int32)), (2, .int (-9 : Int32)), (0, .ref (e.2.2.1 0)), (1, .int p1)]) dX6_scrape_46 (by decide) rfl ?_
      obtain ⟨n, h⟩ := h
      refine m_loc [3, 4, 2, 1, 0] rfl ?_
      refine l_X6_scrape_L48 (fun S19 v20 v21 h => ?_) n S4 (-9 : Int32) (-9 : Int32) (0 : Int32) h
      refine m_iload_n dX6_scrape_110 0 rfl rfl ?_
      refine m_if_ne (tgt := 118) dX6_scrape_111 (by decide) (fun z => ?_) (fun z => ?_)
      · replace h := h.1 z
        refine m_iload_n dX6_scrape_118 2 rfl rfl ?_
        exact m_iret hR ⟨_, rfl, h⟩ dX6_scrape_119
      · replace h := h.2 z
        refine m_iload_n dX6_scrape_114 1 rfl rfl ?_
        refine m_goto (tgt := 119) dX6_scrape_115 (by decide) ?_
        exact m_iret hR ⟨_, rfl, h⟩ dX6_scrape_119
    · replace h := h.2 z
      refine m_bipush (v := -9) dX6_scrape_36 (by decide) ?_
      exact m_iret hR ⟨_, rfl, h⟩ dX6_scrape_38
  · replace h := h.2 z
    refine m_iconst (v := -1) dX6_scrape_9 (by decide) ?_
    exact m_iret hR ⟨_, rfl, h⟩ dX6_scrape_10
def w_X0_add (S0 : St) (p1 : Int32) (p2 : Int32) (Q : St → Prop) : Prop :=
  (((6 : Int32) ≤ (S0.1 4700 0) → Q S0) ∧ (¬ (6 : Int32) ≤ (S0.1 4700 0) → (vp_in (S0.1 4700 0) 6 ∧ ∀ S1 : St, S1 = setA S0 47 (upd (S0.1 47) (S0.1 4700 0).toNatClampNeg p1) → (vp_in (S1.1 4700 0) 6 ∧ ∀ S2 : St, S2 = setA S1 48 (upd (S1.1 48) (S1.1 4700 0).toNatClampNeg p2) → ∀ S3 : St, S3 = setI S2 4700 ((S2.1 4700 0) + (1 : Int32)) → Q S3))))
set_option maxRecDepth 100000 in
set_option maxHeartbeats 4000000 in
theorem c_X0_add {e : GE} {S0 : St} {p1 : Int32} {p2 : Int32} {Q : St → Prop} (h : w_X0_add S0 p1 p2 Q) : CT e yX0_add cX0_add 3 none 1 [.ref (e.2.2.1 46), .int p1, .int p2] S0 (pV Q) := by
  refine CT.of (by decide) (Nat.le_of_ble_eq_true rfl) (fun Z hR => ?_)
  rw [w_X0_add] at h
  show MW Z e cX0_add 3 RX0 1 0 [(0, .ref (e.2.2.1 46)), (1, .int p1), (2, .int p2)] [] S0
  refine m_aload_n dX0_add_0 0 rfl rfl ?_
  refine m_get 46 0 (o_46 e _) rfl inlX0 (by decide) q5_7 rfl dX0_add_1 ?_
  refine m_bipush (v := 6) dX0_add_4 (by decide) ?_
  refine m_icmp_ge (tgt := 39) dX0_add_6 (by decide) (fun z => ?_) (fun z => ?_)
  · replace h := h.1 z
    exact m_vret hR ⟨rfl, h⟩ dX0_add_39
  · replace h := h.2 z
    refine m_aload_n dX0_add_9 0 rfl rfl ?_
    refine m_get 46 1 (o_46 e _) rfl inlX0 (by decide) q5_8 rfl dX0_add_10 ?_
    refine m_aload_n dX0_add_13 0 rfl rfl ?_
    refine m_get 46 0 (o_46 e _) rfl inlX0 (by decide) q5_7 rfl dX0_add_14 ?_
    refine m_iload_n dX0_add_17 1 rfl rfl ?_
    refine m_iast 47 (a_47 e _) (aw_47 e _) h.1 dX0_add_18 (fun S1 eS1 => ?_)
    replace h := h.2 S1 eS1
    refine m_aload_n dX0_add_19 0 rfl rfl ?_
    refine m_get 46 2 (o_46 e _) rfl inlX0 (by decide) q5_9 rfl dX0_add_20 ?_
    refine m_aload_n dX0_add_23 0 rfl rfl ?_
    refine m_get 46 0 (o_46 e _) rfl inlX0 (by decide) q5_7 rfl dX0_add_24 ?_
    refine m_iload_n dX0_add_27 2 rfl rfl ?_
    refine m_iast 48 (a_48 e _) (aw_48 e _) h.1 dX0_add_28 (fun S2 eS2 => ?_)
    replace h := h.2 S2 eS2
    refine m_aload_n dX0_add_29 0 rfl rfl ?_
    refine m_dup dX0_add_30 rfl ?_
    refine m_get 46 0 (o_46 e _) rfl inlX0 (by decide) q5_7 rfl dX0_add_31 ?_
    refine m_iconst (v := 1) dX0_add_34 (by decide) ?_
    refine m_iadd dX0_add_35 ?_
    refine m_put (S2 := setI S2 4700 ((S2.1 4700 0) + (1 : Int32))) 46 0 tyX0 tyX0_ok nmX0 (o_46 e _) rfl inlX0 (by decide) q5_7 rfl (tyX0_ok 0 (by decide)) rfl rfl (Nat.le_of_ble_eq_true rfl) (p_46_0 e _ _) dX0_add_36 (fun S3 eS3 => ?_)
    replace h := h S3 eS3
    exact m_vret hR ⟨rfl, h⟩ dX0_add_39
def w_X0_exchange (S0 : St) (p2 : Int32) (p3 : Int32) (Q : St → Prop) : Prop :=
  (vp_in p2 6 ∧ ∀ x1 : Int32, x1 = S0.1 47 p2.toNatClampNeg → (vp_in p3 6 ∧ (vp_in p2 6 ∧ ∀ S2 : St, S2 = setA S0 47 (upd (S0.1 47) p2.toNatClampNeg (S0.1 47 p3.toNatClampNeg)) → (vp_in p3 6 ∧ ∀ S3 : St, S3 = setA S2 47 (upd (S2.1 47) p3.toNatClampNeg x1) → Q S3))))
set_option maxRecDepth 100000 in
set_option maxHeartbeats 4000000 in
theorem c_X0_exchange {e : GE} {S0 : St} {p2 : Int32} {p3 : Int32} {Q : St → Prop} (h : w_X0_exchange S0 p2 p3 Q) : CT e yX0_exchange cX0_exchange 4 none 1 [.ref (e.2.2.1 47), .int p2, .int p3] S0 (pV Q) := by
  refine CT.of (by decide) (Nat.le_of_ble_eq_true rfl) (fun Z hR => ?_)
  rw [w_X0_exchange] at h
  show MW Z e cX0_exchange 4 RX0 1 0 [(0, .ref (e.2.2.1 47)), (1, .int p2), (2, .int p3)] [] S0
  refine m_aload_n dX0_exchange_0 0 rfl rfl ?_
  refine m_iload_n dX0_exchange_1 1 rfl rfl ?_
  refine m_iald 47 (a_47 e _) h.1 dX0_exchange_2 ?_
  replace h := h.2
  refine m_topi (fun x1 ex1 => ?_)
  replace h := h x1 ex1
  refine m_istore_n (lv2 := [(3, .int x1), (0, .ref (e.2.2.1 47)), (1, .int p2), (2, .int p3)]) dX0_exchange_3 rfl (by decide) rfl ?_
  refine m_aload_n dX0_exchange_4 1 rfl rfl ?_
  refine m_iload_n dX0_exchange_5 2 rfl rfl ?_
  refine m_aload_n dX0_exchange_6 1 rfl rfl ?_
  refine m_iload_n dX0_exchange_7 3 rfl rfl ?_
  refine m_iald 47 (a_47 e _) h.1 dX0_exchange_8 ?_
  replace h := h.2
  refine m_iast 47 (a_47 e _) (aw_47 e _) h.1 dX0_exchange_9 (fun S2 eS2 => ?_)
  replace h := h.2 S2 eS2
  refine m_aload_n dX0_exchange_10 1 rfl rfl ?_
  refine m_iload_n dX0_exchange_11 3 rfl rfl ?_
  refine m_iload_n dX0_exchange_12 0 rfl rfl ?_
  refine m_iast 47 (a_47 e _) (aw_47 e _) h.1 dX0_exchange_13 (fun S3 eS3 => ?_)
  replace h := h.2 S3 eS3
  exact m_vret hR ⟨rfl, h⟩ dX0_exchange_14
def X0_fewestFrom_L3 (S3 : St) (f2 : Int32) (kx : Int32 → Prop) : Nat → Int32 → Prop
  | 0 => fun _ => False
  | n + 1 => (fun (rec : Int32 → Prop) => fun (v1 : Int32) => ((f2 ≤ v1 → kx v1) ∧ (¬ f2 ≤ v1 → (vp_in v1 6 ∧ (vp_in v1 6 ∧ ((¬ (S3.1 47 v1.toNatClampNeg) = (S3.1 48 v1.toNatClampNeg) → kx v1) ∧ ((S3.1 47 v1.toNatClampNeg) = (S3.1 48 v1.toNatClampNeg) → ∀ x4 : Int32, x4 = v1 + (1 : Int32) → rec x4))))))) (X0_fewestFrom_L3 S3 f2 kx n)
def X0_fewestFrom_L44 (wr : St → Int32 → Int32 → (Int32 → St → Prop) → Prop) (f11 : Int32) (f12 : Int32) (kx : St → Int32 → Prop) : Nat → St → Int32 → Int32 → Prop
  | 0 => fun _ _ _ => False
  | n + 1 => (fun (rec : St → Int32 → Int32 → Prop) => fun (S8 : St) (v9 : Int32) (v10 : Int32) => ((f11 ≤ v10 → kx S8 v9) ∧ (¬ f11 ≤ v10 → (vp_in v10 6 ∧ (vp_in f12 6 ∧ ((¬ (S8.1 47 v10.toNatClampNeg) = (S8.1 48 f12.toNatClampNeg) → ∀ x13 : Int32, x13 = v10 + (1 : Int32) → rec S8 v9 x13) ∧ ((S8.1 47 v10.toNatClampNeg) = (S8.1 48 f12.toNatClampNeg) → (vp_in v10 6 ∧ (vp_in v10 6 ∧ (((S8.1 47 v10.toNatClampNeg) = (S8.1 48 v10.toNatClampNeg) → ∀ x14 : Int32, x14 = v10 + (1 : Int32) → rec S8 v9 x14) ∧ (¬ (S8.1 47 v10.toNatClampNeg) = (S8.1 48 v10.toNatClampNeg) → (w_X0_exchange S8 f12 v10  (fun S15 => (wr S15 f11 (f12 + (1 : Int32))  (fun r16 S17 => (∀ x18 : Int32, x18 = (if ((1 : Int32) + r16) < v9 then ((1 : Int32) + r16) else v9) → (w_X0_exchange S17 f12 v10  (fun S19 => ∀ x20 : Int32, x20 = v10 + (1 : Int32) → rec S19 x18 x20)))))))))))))))))) (X0_fewestFrom_L44 wr f11 f12 kx n)
def w_X0_fewestFrom : Nat → St → Int32 → Int32 → (Int32 → St → Prop) → Prop
  | 0 => fun _ _ _ _ => False
  | d + 1 => fun S0 p3 p4 Q => (fun (wr : St → Int32 → Int32 → (Int32 → St → Prop) → Prop) => (∃ n : Nat, X0_fewestFrom_L3 S0 p3 (fun (v6 : Int32) => ((v6 < p3 → ∀ x7 : Int32, x7 = v6 + (1 : Int32) → (∃ n : Nat, X0_fewestFrom_L44 wr p3 v6 (fun (S23 : St) (v24 : Int32) => Q v24 S23) n S0 (100 : Int32) x7)) ∧ (¬ v6 < p3 → Q (0 : Int32) S0))) n p4)) (w_X0_fewestFrom d)
set_option maxRecDepth 100000 in
set_option maxHeartbeats 4000000 in
theorem l_X0_fewestFrom_L3 {Z : Zt} {e : GE} {S3 : St} {f2 : Int32} {kx : Int32 → Prop} {d0 : Nat} (hk : ∀ (v5 : Int32), kx v5 → MW Z e cX0_fewestFrom 7 RX0 (d0 + 1 + 2) 26 [(0, .ref (e.2.2.1 47)), (1, .ref (e.2.2.1 48)), (2, .int f2), (4, .int v5)] [] S3) : ∀ (n : Nat) (v1 : Int32), X0_fewestFrom_L3 S3 f2 kx n v1 → MW Z e cX0_fewestFrom 7 RX0 (d0 + 1 + 2) 3 [(0, .ref (e.2.2.1 47)), (1, .ref (e.2.2.1 48)), (2, .int f2), (4, .int v1)] [] S3 := by
  intro n
  induction n with
  | zero =>
    intro v1 h
    exact h.elim
  | succ n ih =>
    intro v1 h
    rw [X0_fewestFrom_L3] at h
    refine m_iload dX0_fewestFrom_3 3 rfl ?_
    refine m_iload_n dX0_fewestFrom_5 2 rfl rfl ?_
    refine m_icmp_ge (tgt := 26) dX0_fewestFrom_6 (by decide) (fun z => ?_) (fun z => ?_)
    · replace h := h.1 z
      exact hk v1 h
    · replace h := h.2 z
      refine m_aload_n dX0_fewestFrom_9 0 rfl rfl ?_
      refine m_iload dX0_fewestFrom_10 3 rfl ?_
      refine m_iald 47 (a_47 e _) h.1 dX0_fewestFrom_12 ?_
      replace h := h.2
      refine m_aload_n dX0_fewestFrom_13 1 rfl rfl ?_
      refine m_iload dX0_fewestFrom_14 3 rfl ?_
      refine m_iald 48 (a_48 e _) h.1 dX0_fewestFrom_16 ?_
      replace h := h.2
      refine m_icmp_ne (tgt := 26) dX0_fewestFrom_17 (by decide) (fun z => ?_) (fun z => ?_)
      · replace h := h.1 z
        exact hk v1 h
      · replace h := h.2 z
        obtain ⟨x4, ex4⟩ : ∃ y : Int32, y = v1 + (1 : Int32) := ⟨_, rfl⟩
        replace h := h x4 ex4
        refine m_iinc (v := x4) (lv2 := [(4, .int x4), (0, .ref (e.2.2.1 47)), (1, .ref (e.2.2.1 48)), (2, .int f2)]) dX0_fewestFrom_20 3 rfl ex4.symm (by decide) rfl ?_
        refine m_goto (tgt := 3) dX0_fewestFrom_23 (by decide) ?_
        refine m_loc [1, 2, 3, 0] rfl ?_
        exact ih x4 h
set_option maxRecDepth 100000 in
set_option maxHeartbeats 4000000 in
theorem l_X0_fewestFrom_L44 {Z : Zt} {e : GE} {wr : St → Int32 → Int32 → (Int32 → St → Prop) → Prop} {f11 : Int32} {f12 : Int32} {kx : St → Int32 → Prop} {d0 : Nat} (hrec : ∀ (S0 : St) (p3 : Int32) (p4 : Int32) (Q : Int32 → St → Prop), wr S0 p3 p4 Q → CT e yX0_fewestFrom cX0_fewestFrom 7 (some .int) (d0 + 2) [.ref (e.2.2.1 47), .ref (e.2.2.1 48), .int p3, .int p4] S0 (pI Q)) (hk : ∀ (S21 : St) (v22 : Int32), kx S21 v22 → MW Z e cX0_fewestFrom 7 RX0 (d0 + 1 + 2) 113 [(5, .int v22)] [] S21) : ∀ (n : Nat) (S8 : St) (v9 : Int32) (v10 : Int32), X0_fewestFrom_L44 wr f11 f12 kx n S8 v9 v10 → MW Z e cX0_fewestFrom 7 RX0 (d0 + 1 + 2) 44 [(0, .ref (e.2.2.1 47)), (1, .ref (e.2.2.1 48)), (2, .int f11), (4, .int f12), (5, .int v9), (6, .int v10)] [] S8 := by
  intro n
  induction n with
  | zero =>
    intro S8 v9 v10 h
    exact h.elim
  | succ n ih =>
    intro S8 v9 v10 h
    rw [X0_fewestFrom_L44] at h
    refine m_iload dX0_fewestFrom_44 5 rfl ?_
    refine m_iload_n dX0_fewestFrom_46 2 rfl rfl ?_
    refine m_icmp_ge (tgt := 113) dX0_fewestFrom_47 (by decide) (fun z => ?_) (fun z => ?_)
    · replace h := h.1 z
      refine m_loc [4] rfl ?_
      exact hk S8 v9 h
    · replace h := h.2 z
      refine m_aload_n dX0_fewestFrom_50 0 rfl rfl ?_
      refine m_iload dX0_fewestFrom_51 5 rfl ?_
      refine m_iald 47 (a_47 e _) h.1 dX0_fewestFrom_53 ?_
      replace h := h.2
      refine m_aload_n dX0_fewestFrom_54 1 rfl rfl ?_
      refine m_iload dX0_fewestFrom_55 3 rfl ?_
      refine m_iald 48 (a_48 e _) h.1 dX0_fewestFrom_57 ?_
      replace h := h.2
      refine m_icmp_ne (tgt := 107) dX0_fewestFrom_58 (by decide) (fun z => ?_) (fun z => ?_)
      · replace h := h.1 z
        obtain ⟨x13, ex13⟩ : ∃ y : Int32, y = v10 + (1 : Int32) := ⟨_, rfl⟩
        replace h := h x13 ex13
        refine m_iinc (v := x13) (lv2 := [(6, .int x13), (0, .ref (e.2.2.1 47)), (1, .ref (e.2.2.1 48)), (2, .int f11), (4, .int f12), (5, .int v9)]) dX0_fewestFrom_107 5 rfl ex13.symm (by decide) rfl ?_
        refine m_goto (tgt := 44) dX0_fewestFrom_110 (by decide) ?_
        refine m_loc [1, 2, 3, 4, 5, 0] rfl ?_
        exact ih S8 v9 x13 h
      · replace h := h.2 z
        refine m_aload_n dX0_fewestFrom_61 0 rfl rfl ?_
        refine m_iload dX0_fewestFrom_62 5 rfl ?_
        refine m_iald 47 (a_47 e _) h.1 dX0_fewestFrom_64 ?_
        replace h := h.2
        refine m_aload_n dX0_fewestFrom_65 1 rfl rfl ?_
        refine m_iload dX0_fewestFrom_66 5 rfl ?_
        refine m_iald 48 (a_48 e _) h.1 dX0_fewestFrom_68 ?_
        replace h := h.2
        refine m_icmp_eq (tgt := 107) dX0_fewestFrom_69 (by decide) (fun z => ?_) (fun z => ?_)
        · replace h := h.1 z
          obtain ⟨x14, ex14⟩ : ∃ y : Int32, y = v10 + (1 : Int32) := ⟨_, rfl⟩
          replace h := h x14 ex14
          refine m_iinc (v := x14) (lv2 := [(6, .int x14), (0, .ref (e.2.2.1 47)), (1, .ref (e.2.2.1 48)), (2, .int f11), (4, .int f12), (5, .int v9)]) dX0_fewestFrom_107 5 rfl ex14.symm (by decide) rfl ?_
          refine m_goto (tgt := 44) dX0_fewestFrom_110 (by decide) ?_
          refine m_loc [1, 2, 3, 4, 5, 0] rfl ?_
          exact ih S8 v9 x14 h
        · replace h := h.2 z
          refine m_aload_n dX0_fewestFrom_72 0 rfl rfl ?_
          refine m_iload dX0_fewestFrom_73 3 rfl ?_
          refine m_iload dX0_fewestFrom_75 5 rfl ?_
          refine m_callS [.ref (e.2.2.1 47), .int f12, .int v10] (c_X0_exchange h) q28_22 q28_23 q2_12 q29_0 t_X0_exchange rfl (by omega) (by decide) (Nat.le_of_ble_eq_true rfl) rfl dX0_fewestFrom_77 (kV (P := MW Z e cX0_fewestFrom 7 RX0 (d0 + 1 + 2) 80 [(0, .ref (e.2.2.1 47)), (1, .ref (e.2.2.1 48)), (2, .int f11), (4, .int f12), (5, .int v9), (6, .int v10)]) (fun S15 h => ?_))
          refine m_iload dX0_fewestFrom_80 4 rfl ?_
          refine m_iconst (v := 1) dX0_fewestFrom_82 (by decide) ?_
          refine m_aload_n dX0_fewestFrom_83 0 rfl rfl ?_
          refine m_aload_n dX0_fewestFrom_84 1 rfl rfl ?_
          refine m_iload_n dX0_fewestFrom_85 2 rfl rfl ?_
          refine m_iload dX0_fewestFrom_86 3 rfl ?_
          refine m_iconst (v := 1) dX0_fewestFrom_88 (by decide) ?_
          refine m_iadd dX0_fewestFrom_89 ?_
          refine m_callS [.ref (e.2.2.1 47), .ref (e.2.2.1 48), .int f11, .int (f12 + (1 : Int32))] (hrec _ _ _ _ h) q28_18 q28_19 q2_12 q28_20 t_X0_fewestFrom rfl (by omega) (by decide) (Nat.le_of_ble_eq_true rfl) rfl dX0_fewestFrom_90 (kI (P := MW Z e cX0_fewestFrom 7 RX0 (d0 + 1 + 2) 93 [(0, .ref (e.2.2.1 47)), (1, .ref (e.2.2.1 48)), (2, .int f11), (4, .int f12), (5, .int v9), (6, .int v10)]) (fun r16 S17 h => ?_))
          refine m_iadd dX0_fewestFrom_93 ?_
          refine m_mmin q28_21 q20_3 q20_4 q20_5 (by omega) (Nat.le_of_ble_eq_true rfl) dX0_fewestFrom_94 ?_
          refine m_topi (fun x18 ex18 => ?_)
          replace h := h x18 ex18
          refine m_istore (lv2 := [(5, .int x18), (0, .ref (e.2.2.1 47)), (1, .ref (e.2.2.1 48)), (2, .int f11), (4, .int f12), (6, .int v10)]) dX0_fewestFrom_97 (by decide) rfl ?_
          refine m_aload_n dX0_fewestFrom_99 1 rfl rfl ?_
          refine m_iload dX0_fewestFrom_100 4 rfl ?_
          refine m_iload dX0_fewestFrom_102 5 rfl ?_
          refine m_callS [.ref (e.2.2.1 47), .int f12, .int v10] (c_X0_exchange h) q28_22 q28_23 q2_12 q29_0 t_X0_exchange rfl (by omega) (by decide) (Nat.le_of_ble_eq_true rfl) rfl dX0_fewestFrom_104 (kV (P := MW Z e cX0_fewestFrom 7 RX0 (d0 + 1 + 2) 107 [(5, .int x18), (0, .ref (e.2.2.1 47)), (1, .ref (e.2.2.1 48)), (2, .int f11), (4, .int f12), (6, .int v10)]) (fun S19 h => ?_))
          obtain ⟨x20, ex20⟩ : ∃ y : Int32, y = v10 + (1 : Int32) := ⟨_, rfl⟩
          replace h := h x20 ex20
          refine m_iinc (v := x20) (lv2 := [(6, .int x20), (5, .int x18), (0, .ref (e.2.2.1 47)), (1, .ref (e.2.2.1 48)), (2, .int f11), (4, .int f12)]) dX0_fewestFrom_107 5 rfl ex20.symm (by decide) rfl ?_
          refine m_goto (tgt := 44) dX0_fewestFrom_110 (by decide) ?_
          refine m_loc [2, 3, 4, 5, 1, 0] rfl ?_
          exact ih S19 x18 x20 h
set_option maxRecDepth 100000 in
set_option maxHeartbeats 4000000 in
theorem c_X0_fewestFrom {e : GE} : ∀ (d0 : Nat) (S0 : St) (p3 : Int32) (p4 : Int32) (Q : Int32 → St → Prop), w_X0_fewestFrom d0 S0 p3 p4 Q → CT e yX0_fewestFrom cX0_fewestFrom 7 (some .int) (d0 + 2) [.ref (e.2.2.1 47), .ref (e.2.2.1 48), .int p3, .int p4] S0 (pI Q) := by
  intro d0
  induction d0 with
  | zero =>
    intro S0 p3 p4 Q h
    exact h.elim
  | succ d0 hrec =>
    intro S0 p3 p4 Q h
    rw [w_X0_fewestFrom] at h
    refine CT.of (by decide) (Nat.le_of_ble_eq_true rfl) (fun Z hR => ?_)
    show MW Z e cX0_fewestFrom 7 RX0 (d0 + 1 + 2) 0 [(0, .ref (e.2.2.1 47)), (1, .ref (e.2.2.1 48)), (2, .int p3), (3, .int p4)] [] S0
    refine m_iload_n dX0_fewestFrom_0 3 rfl rfl ?_
    refine m_istore (lv2 := [(4, .int p4), (0, .ref (e.2.2.1 47)), (1, .ref (e.2.2.1 48)), (2, .int p3), (3, .int p4)]) dX0_fewestFrom_1 (by decide) rfl ?_
    obtain ⟨n, h⟩ := h
    refine m_loc [1, 2, 3, 0] rfl ?_
    refine l_X0_fewestFrom_L3 (fun v6 h => ?_) n p4 h
    refine m_iload dX0_fewestFrom_26 3 rfl ?_
    refine m_iload_n dX0_fewestFrom_28 2 rfl rfl ?_
    refine m_icmp_lt (tgt := 34) dX0_fewestFrom_29 (by decide) (fun z => ?_) (fun z => ?_)
    · replace h := h.1 z
      refine m_bipush (v := 100) dX0_fewestFrom_34 (by decide) ?_
      refine m_istore (lv2 := [(5, .int (100 : Int32)), (0, .ref (e.2.2.1 47)), (1, .ref (e.2.2.1 48)), (2, .int p3), (4, .int v6)]) dX0_fewestFrom_36 (by decide) rfl ?_
      refine m_iload dX0_fewestFrom_38 4 rfl ?_
      refine m_iconst (v := 1) dX0_fewestFrom_40 (by decide) ?_
      refine m_iadd dX0_fewestFrom_41 ?_
      refine m_topi (fun x7 ex7 => ?_)
      replace h := h x7 ex7
      refine m_istore (lv2 := [(6, .int x7), (5, .int (100 : Int32)), (0, .ref (e.2.2.1 47)), (1, .ref (e.2.2.1 48)), (2, .int p3), (4, .int v6)]) dX0_fewestFrom_42 (by decide) rfl ?_
      obtain ⟨n, h⟩ := h
      refine m_loc [2, 3, 4, 5, 1, 0] rfl ?_
      refine l_X0_fewestFrom_L44 hrec (fun S23 v24 h => ?_) n S0 (100 : Int32) x7 h
      refine m_iload dX0_fewestFrom_113 0 rfl ?_
      exact m_iret hR ⟨_, rfl, h⟩ dX0_fewestFrom_115
    · replace h := h.2 z
      refine m_iconst (v := 0) dX0_fewestFrom_32 (by decide) ?_
      exact m_iret hR ⟨_, rfl, h⟩ dX0_fewestFrom_33
