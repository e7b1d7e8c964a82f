def X7_comesOut_L4 (S4 : St) (f3 : Int32) (kx : Int32 → Prop) : Nat → Int32 → Int32 → Prop
  | 0 => fun _ _ => False
  | n + 1 => (fun (rec : Int32 → Int32 → Prop) => fun (v1 : Int32) (v2 : Int32) => ((f3 ≤ v2 → kx v1) ∧ (¬ f3 ≤ v2 → ((v1 = 0 → kx v1) ∧ (¬ v1 = 0 → (vp_in v2 6 ∧ (vp_in (S4.1 61 v2.toNatClampNeg) 6 ∧ (w_X7_rustOf S4 (S4.1 60 (S4.1 61 v2.toNatClampNeg).toNatClampNeg) (9 : Int32)  (fun r5 => (vp_in v2 6 ∧ (vp_in ((49 : Int32) + (S4.1 60 v2.toNatClampNeg)) 55 ∧ ((¬ r5 = (S4.1 53 ((49 : Int32) + (S4.1 60 v2.toNatClampNeg)).toNatClampNeg) → ∀ x6 : Int32, x6 = v2 + (1 : Int32) → rec (0 : Int32) x6) ∧ (r5 = (S4.1 53 ((49 : Int32) + (S4.1 60 v2.toNatClampNeg)).toNatClampNeg) → ∀ x7 : Int32, x7 = v2 + (1 : Int32) → rec (1 : Int32) x7))))))))))))) (X7_comesOut_L4 S4 f3 kx n)
def w_X7_comesOut (S0 : St) (p1 : Int32) (Q : Int32 → Prop) : Prop :=
  (∃ n : Nat, X7_comesOut_L4 S0 p1 (fun (v9 : Int32) => (zok v9 ∧ Q v9)) n (1 : Int32) (0 : Int32))
set_option maxRecDepth 100000 in
set_option maxHeartbeats 4000000 in
theorem l_X7_comesOut_L4 {Z : Zt} {e : GE} {S4 : St} {f3 : Int32} {kx : Int32 → Prop} (hk : ∀ (v8 : Int32), kx v8 → MW Z e cX7_comesOut 4 RX7 4 59 [(2, .int v8)] [] S4) : ∀ (n : Nat) (v1 : Int32) (v2 : Int32), X7_comesOut_L4 S4 f3 kx n v1 v2 → MW Z e cX7_comesOut 4 RX7 4 4 [(0, .ref (e.2.2.1 49)), (1, .int f3), (2, .int v1), (3, .int v2)] [] S4 := by
  intro n
  induction n with
  | zero =>
    intro v1 v2 h
    exact h.elim
  | succ n ih =>
    intro v1 v2 h
    rw [X7_comesOut_L4] at h
    refine m_iload_n dX7_comesOut_4 3 rfl rfl ?_
    refine m_iload_n dX7_comesOut_5 1 rfl rfl ?_
    refine m_icmp_ge (tgt := 59) dX7_comesOut_6 (by decide) (fun z => ?_) (fun z => ?_)
    · replace h := h.1 z
      refine m_loc [2] rfl ?_
      exact hk v1 h
    · replace h := h.2 z
      refine m_iload_n dX7_comesOut_9 2 rfl rfl ?_
      refine m_if_eq (tgt := 59) dX7_comesOut_10 (by decide) (fun z => ?_) (fun z => ?_)
      · replace h := h.1 z
        refine m_loc [2] rfl ?_
        exact hk v1 h
      · replace h := h.2 z
        refine m_aload_n dX7_comesOut_13 0 rfl rfl ?_
        refine m_aload_n dX7_comesOut_14 0 rfl rfl ?_
        refine m_get 49 17 (o_49 e _) rfl inlX7 (by decide) q6_0 rfl dX7_comesOut_15 ?_
        refine m_aload_n dX7_comesOut_18 0 rfl rfl ?_
        refine m_get 49 18 (o_49 e _) rfl inlX7 (by decide) q6_1 rfl dX7_comesOut_19 ?_
        refine m_iload_n dX7_comesOut_22 3 rfl rfl ?_
        refine m_iald 61 (a_61 e _) h.1 dX7_comesOut_23 ?_
        replace h := h.2
        refine m_iald 60 (a_60 e _) h.1 dX7_comesOut_24 ?_
        replace h := h.2
        refine m_bipush (v := 9) dX7_comesOut_25 (by decide) ?_
        refine m_callV 49 [.int (S4.1 60 (S4.1 61 v2.toNatClampNeg).toNatClampNeg), .int (9 : Int32)] (c_X7_rustOf h) (o_49 e _) rfl rfl q20_20 q20_21 q20_22 q1_5 q20_23 t_X7_rustOf rfl (by omega) (by decide) (Nat.le_of_ble_eq_true rfl) rfl dX7_comesOut_27 (kR (P := MW Z e cX7_comesOut 4 RX7 4 30 [(0, .ref (e.2.2.1 49)), (1, .int f3), (2, .int v1), (3, .int v2)]) (fun r5 h => ?_))
        refine m_aload_n dX7_comesOut_30 0 rfl rfl ?_
        refine m_get 49 5 (o_49 e _) rfl inlX7 (by decide) q5_17 rfl dX7_comesOut_31 ?_
        refine m_bipush (v := 49) dX7_comesOut_34 (by decide) ?_
        refine m_aload_n dX7_comesOut_36 0 rfl rfl ?_
        refine m_get 49 17 (o_49 e _) rfl inlX7 (by decide) q6_0 rfl dX7_comesOut_37 ?_
        refine m_iload_n dX7_comesOut_40 3 rfl rfl ?_
        refine m_iald 60 (a_60 e _) h.1 dX7_comesOut_41 ?_
        replace h := h.2
        refine m_iadd dX7_comesOut_42 ?_
        refine m_iald 53 (a_53 e _) h.1 dX7_comesOut_43 ?_
        replace h := h.2
        refine m_icmp_ne (tgt := 51) dX7_comesOut_44 (by decide) (fun z => ?_) (fun z => ?_)
        · replace h := h.1 z
          refine m_iconst (v := 0) dX7_comesOut_51 (by decide) ?_
          refine m_istore_n (lv2 := [(2, .int (0 : Int32)), (0, .ref (e.2.2.1 49)), (1, .int f3), (3, .int v2)]) dX7_comesOut_52 rfl (by decide) rfl ?_
          obtain ⟨x6, ex6⟩ : ∃ y : Int32, y = v2 + (1 : Int32) := ⟨_, rfl⟩
          replace h := h x6 ex6
          refine m_iinc (v := x6) (lv2 := [(3, .int x6), (2, .int (0 : Int32)), (0, .ref (e.2.2.1 49)), (1, .int f3)]) dX7_comesOut_53 3 rfl ex6.symm (by decide) rfl ?_
          refine m_goto (tgt := 4) dX7_comesOut_56 (by decide) ?_
          refine m_loc [2, 3, 1, 0] rfl ?_
          exact ih (0 : Int32) x6 h
        · replace h := h.2 z
          refine m_iconst (v := 1) dX7_comesOut_47 (by decide) ?_
          refine m_goto (tgt := 52) dX7_comesOut_48 (by decide) ?_
          refine m_istore_n (lv2 := [(2, .int (1 : Int32)), (0, .ref (e.2.2.1 49)), (1, .int f3), (3, .int v2)]) dX7_comesOut_52 rfl (by decide) rfl ?_
          obtain ⟨x7, ex7⟩ : ∃ y : Int32, y = v2 + (1 : Int32) := ⟨_, rfl⟩
          replace h := h x7 ex7
          refine m_iinc (v := x7) (lv2 := [(3, .int x7), (2, .int (1 : Int32)), (0, .ref (e.2.2.1 49)), (1, .int f3)]) dX7_comesOut_53 3 rfl ex7.symm (by decide) rfl ?_
          refine m_goto (tgt := 4) dX7_comesOut_56 (by decide) ?_
          refine m_loc [2, 3, 1, 0] rfl ?_
          exact ih (1 : Int32) x7 h
set_option maxRecDepth 100000 in
set_option maxHeartbeats 4000000 in
theorem c_X7_comesOut {e : GE} {S0 : St} {p1 : Int32} {Q : Int32 → Prop} (h : w_X7_comesOut S0 p1 Q) : CT e yX7_comesOut cX7_comesOut 4 (some .boolean) 4 [.ref (e.2.2.1 49), .int p1] S0 (pR S0 Q) := by
  refine CT.of (by decide) (Nat.le_of_ble_eq_true rfl) (fun Z hR => ?_)
  rw [w_X7_comesOut] at h
  show MW Z e cX7_comesOut 4 RX7 4 0 [(0, .ref (e.2.2.1 49)), (1, .int p1)] [] S0
  refine m_iconst (v := 1) dX7_comesOut_0 (by decide) ?_
  refine m_istore_n (lv2 := [(2, .int (1 : Int32)), (0, .ref (e.2.2.1 49)), (1, .int p1)]) dX7_comesOut_1 rfl (by decide) rfl ?_
  refine m_iconst (v := 0) dX7_comesOut_2 (by decide) ?_
  refine m_istore_n (lv2 := [(3, .int (0 : Int32)), (2, .int (1 : Int32)), (0, .ref (e.2.2.1 49)), (1, .int p1)]) dX7_comesOut_3 rfl (by decide) rfl ?_
  obtain ⟨n, h⟩ := h
  refine m_loc [2, 3, 1, 0] rfl ?_
  refine l_X7_comesOut_L4 (fun v9 h => ?_) n (1 : Int32) (0 : Int32) h
  refine m_iload_n dX7_comesOut_59 0 rfl rfl ?_
  exact m_zret hR h.1 ⟨_, rfl, rfl, h.2⟩ dX7_comesOut_60
def X7_exchanges_L34 (S14 : St) (f11 : Int32) (f12 : Int32) (f13 : Int32) (kx : Int32 → Prop) : Nat → Int32 → Int32 → Prop
  | 0 => fun _ _ => False
  | n + 1 => (fun (rec : Int32 → Int32 → Prop) => fun (v9 : Int32) (v10 : Int32) => ((¬ ((v9 >>> (v10 &&& 31)) &&& (1 : Int32)) = 0 → kx v9) ∧ (((v9 >>> (v10 &&& 31)) &&& (1 : Int32)) = 0 → ∀ x15 : Int32, x15 = v9 ||| ((1 : Int32) <<< (v10 &&& 31)) → (vp_in v10 6 ∧ ∀ x16 : Int32, x16 = S14.1 61 v10.toNatClampNeg → rec x15 x16)))) (X7_exchanges_L34 S14 f11 f12 f13 kx n)
def X7_exchanges_L7 (S5 : St) (f4 : Int32) (kx : Int32 → Prop) : Nat → Int32 → Int32 → Int32 → Prop
  | 0 => fun _ _ _ => False
  | n + 1 => (fun (rec : Int32 → Int32 → Int32 → Prop) => fun (v1 : Int32) (v2 : Int32) (v3 : Int32) => ((f4 ≤ v3 → kx v2) ∧ (¬ f4 ≤ v3 → (∀ J6 : Int32 → Prop, J6 = (fun (x7 : Int32) => ∀ x8 : Int32, x8 = v2 + x7 → (∃ n : Nat, X7_exchanges_L34 S5 f4 x8 v3 (fun (v18 : Int32) => ∀ x19 : Int32, x19 = v3 + (1 : Int32) → rec v18 x8 x19) n v1 v3)) → ((¬ ((v1 >>> (v3 &&& 31)) &&& (1 : Int32)) = 0 → J6 (0 : Int32)) ∧ (((v1 >>> (v3 &&& 31)) &&& (1 : Int32)) = 0 → J6 (1 : Int32))))))) (X7_exchanges_L7 S5 f4 kx n)
def w_X7_exchanges (S0 : St) (p1 : Int32) (Q : Int32 → Prop) : Prop :=
  (∃ n : Nat, X7_exchanges_L7 S0 p1 (fun (v21 : Int32) => Q (p1 - v21)) n (0 : Int32) (0 : Int32) (0 : Int32))
set_option maxRecDepth 100000 in
set_option maxHeartbeats 4000000 in
theorem l_X7_exchanges_L34 {Z : Zt} {e : GE} {S14 : St} {f11 : Int32} {f12 : Int32} {f13 : Int32} {kx : Int32 → Prop} (hk : ∀ (v17 : Int32), kx v17 → MW Z e cX7_exchanges 6 RX7 1 62 [(0, .ref (e.2.2.1 49)), (1, .int f11), (2, .int v17), (3, .int f12), (4, .int f13)] [] S14) : ∀ (n : Nat) (v9 : Int32) (v10 : Int32), X7_exchanges_L34 S14 f11 f12 f13 kx n v9 v10 → MW Z e cX7_exchanges 6 RX7 1 34 [(0, .ref (e.2.2.1 49)), (1, .int f11), (2, .int v9), (3, .int f12), (4, .int f13), (5, .int v10)] [] S14 := by
  intro n
  induction n with
  | zero =>
    intro v9 v10 h
    exact h.elim
  | succ n ih =>
    intro v9 v10 h
    rw [X7_exchanges_L34] at h
    refine m_iload_n dX7_exchanges_34 2 rfl rfl ?_
    refine m_iload dX7_exchanges_35 5 rfl ?_
    refine m_ishr dX7_exchanges_37 ?_
    refine m_iconst (v := 1) dX7_exchanges_38 (by decide) ?_
    refine m_iand dX7_exchanges_39 ?_
    refine m_if_ne (tgt := 62) dX7_exchanges_40 (by decide) (fun z => ?_) (fun z => ?_)
    · replace h := h.1 z
      refine m_loc [0, 1, 2, 3, 4] rfl ?_
      exact hk v9 h
    · replace h := h.2 z
      refine m_iload_n dX7_exchanges_43 2 rfl rfl ?_
      refine m_iconst (v := 1) dX7_exchanges_44 (by decide) ?_
      refine m_iload dX7_exchanges_45 5 rfl ?_
      refine m_ishl dX7_exchanges_47 ?_
      refine m_ior dX7_exchanges_48 ?_
      refine m_topi (fun x15 ex15 => ?_)
      replace h := h x15 ex15
      refine m_istore_n (lv2 := [(2, .int x15), (0, .ref (e.2.2.1 49)), (1, .int f11), (3, .int f12), (4, .int f13), (5, .int v10)]) dX7_exchanges_49 rfl (by decide) rfl ?_
      refine m_aload_n dX7_exchanges_50 1 rfl rfl ?_
      refine m_get 49 18 (o_49 e _) rfl inlX7 (by decide) q6_1 rfl dX7_exchanges_51 ?_
      refine m_iload dX7_exchanges_54 5 rfl ?_
      refine m_iald 61 (a_61 e _) h.1 dX7_exchanges_56 ?_
      replace h := h.2
      refine m_topi (fun x16 ex16 => ?_)
      replace h := h x16 ex16
      refine m_istore (lv2 := [(5, .int x16), (2, .int x15), (0, .ref (e.2.2.1 49)), (1, .int f11), (3, .int f12), (4, .int f13)]) dX7_exchanges_57 (by decide) rfl ?_
      refine m_goto (tgt := 34) dX7_exchanges_59 (by decide) ?_
      refine m_loc [2, 3, 1, 4, 5, 0] rfl ?_
      exact ih x15 x16 h
set_option maxRecDepth 100000 in
set_option maxHeartbeats 4000000 in
theorem l_X7_exchanges_L7 {Z : Zt} {e : GE} {S5 : St} {f4 : Int32} {kx : Int32 → Prop} (hk : ∀ (v20 : Int32), kx v20 → MW Z e cX7_exchanges 6 RX7 1 68 [(1, .int f4), (3, .int v20)] [] S5) : ∀ (n : Nat) (v1 : Int32) (v2 : Int32) (v3 : Int32), X7_exchanges_L7 S5 f4 kx n v1 v2 v3 → MW Z e cX7_exchanges 6 RX7 1 7 [(0, .ref (e.2.2.1 49)), (1, .int f4), (2, .int v1), (3, .int v2), (4, .int v3)] [] S5 := by
  intro n
  induction n with
  | zero =>
    intro v1 v2 v3 h
    exact h.elim
  | succ n ih =>
    intro v1 v2 v3 h
    rw [X7_exchanges_L7] at h
    refine m_iload dX7_exchanges_7 4 rfl ?_
    refine m_iload_n dX7_exchanges_9 1 rfl rfl ?_
    refine m_icmp_ge (tgt := 68) dX7_exchanges_10 (by decide) (fun z => ?_) (fun z => ?_)
    · replace h := h.1 z
      refine m_loc [1, 3] rfl ?_
      exact hk v2 h
    · replace h := h.2 z
      refine m_iload_n dX7_exchanges_13 3 rfl rfl ?_
      refine m_iload_n dX7_exchanges_14 2 rfl rfl ?_
      refine m_iload dX7_exchanges_15 4 rfl ?_
      refine m_ishr dX7_exchanges_17 ?_
      refine m_iconst (v := 1) dX7_exchanges_18 (by decide) ?_
      refine m_iand dX7_exchanges_19 ?_
      obtain ⟨J6, eJ6, h⟩ := jn h
      have kJ6 : ∀ (x7 : Int32), J6 x7 → MW Z e cX7_exchanges 6 RX7 1 28 [(0, .ref (e.2.2.1 49)), (1, .int f4), (2, .int v1), (4, .int v3)] [.int x7, .int v2] S5 := by
        intro x7 h
        rw [eJ6] at h
        refine m_iadd dX7_exchanges_28 ?_
        refine m_topi (fun x8 ex8 => ?_)
        replace h := h x8 ex8
        refine m_istore_n (lv2 := [(3, .int x8), (0, .ref (e.2.2.1 49)), (1, .int f4), (2, .int v1), (4, .int v3)]) dX7_exchanges_29 rfl (by decide) rfl ?_
        refine m_iload dX7_exchanges_30 4 rfl ?_
        refine m_istore (lv2 := [(5, .int v3), (3, .int x8), (0, .ref (e.2.2.1 49)), (1, .int f4), (2, .int v1), (4, .int v3)]) dX7_exchanges_32 (by decide) rfl ?_
        obtain ⟨n, h⟩ := h
        refine m_loc [2, 3, 4, 1, 5, 0] rfl ?_
        refine l_X7_exchanges_L34 (fun v18 h => ?_) n v1 v3 h
        obtain ⟨x19, ex19⟩ : ∃ y : Int32, y = v3 + (1 : Int32) := ⟨_, rfl⟩
        replace h := h x19 ex19
        refine m_iinc (v := x19) (lv2 := [(4, .int x19), (0, .ref (e.2.2.1 49)), (1, .int f4), (2, .int v18), (3, .int x8)]) dX7_exchanges_62 4 rfl ex19.symm (by decide) rfl ?_
        refine m_goto (tgt := 7) dX7_exchanges_65 (by decide) ?_
        refine m_loc [1, 2, 3, 4, 0] rfl ?_
        exact ih v18 x8 x19 h
      refine m_if_ne (tgt := 27) dX7_exchanges_20 (by decide) (fun z => ?_) (fun z => ?_)
      · replace h := h.1 z
        refine m_iconst (v := 0) dX7_exchanges_27 (by decide) ?_
        refine m_loc [0, 1, 2, 4] rfl ?_
        exact kJ6 (0 : Int32) h
      · replace h := h.2 z
        refine m_iconst (v := 1) dX7_exchanges_23 (by decide) ?_
        refine m_goto (tgt := 28) dX7_exchanges_24 (by decide) ?_
        refine m_loc [0, 1, 2, 4] rfl ?_
        exact kJ6 (1 : Int32) h
set_option maxRecDepth 100000 in
set_option maxHeartbeats 4000000 in
theorem c_X7_exchanges {e : GE} {S0 : St} {p1 : Int32} {Q : Int32 → Prop} (h : w_X7_exchanges S0 p1 Q) : CT e yX7_exchanges cX7_exchanges 6 (some .int) 1 [.ref (e.2.2.1 49), .int p1] S0 (pR S0 Q) := by
  refine CT.of (by decide) (Nat.le_of_ble_eq_true rfl) (fun Z hR => ?_)
  rw [w_X7_exchanges] at h
  show MW Z e cX7_exchanges 6 RX7 1 0 [(0, .ref (e.2.2.1 49)), (1, .int p1)] [] S0
  refine m_iconst (v := 0) dX7_exchanges_0 (by decide) ?_
  refine m_istore_n (lv2 := [(2, .int (0 : Int32)), (0, .ref (e.2.2.1 49)), (1, .int p1)]) dX7_exchanges_1 rfl (by decide) rfl ?_
  refine m_iconst (v := 0) dX7_exchanges_2 (by decide) ?_
  refine m_istore_n (lv2 := [(3, .int (0 : Int32)), (2, .int (0 : Int32)), (0, .ref (e.2.2.1 49)), (1, .int p1)]) dX7_exchanges_3 rfl (by decide) rfl ?_
  refine m_iconst (v := 0) dX7_exchanges_4 (by decide) ?_
  refine m_istore (lv2 := [(4, .int (0 : Int32)), (3, .int (0 : Int32)), (2, .int (0 : Int32)), (0, .ref (e.2.2.1 49)), (1, .int p1)]) dX7_exchanges_5 (by decide) rfl ?_
  obtain ⟨n, h⟩ := h
  refine m_loc [3, 4, 2, 1, 0] rfl ?_
  refine l_X7_exchanges_L7 (fun v21 h => ?_) n (0 : Int32) (0 : Int32) (0 : Int32) h
  refine m_iload_n dX7_exchanges_68 0 rfl rfl ?_
  refine m_iload_n dX7_exchanges_69 1 rfl rfl ?_
  refine m_isub dX7_exchanges_70 ?_
  exact m_iret hR ⟨_, rfl, rfl, h⟩ dX7_exchanges_71
def X7_swaps_L4 (kx : St → Int32 → Prop) : Nat → St → Int32 → Int32 → Prop
  | 0 => fun _ _ _ => False
  | n + 1 => (fun (rec : St → Int32 → Int32 → Prop) => fun (S1 : St) (v2 : Int32) (v3 : Int32) => (vp_in (0 : Int32) 47 ∧ (((S1.1 51 (0 : Int32).toNatClampNeg) ≤ v3 → kx S1 v2) ∧ (¬ (S1.1 51 (0 : Int32).toNatClampNeg) ≤ v3 → (vp_in ((49 : Int32) + v3) 55 ∧ (((S1.1 53 ((49 : Int32) + v3).toNatClampNeg) = (-9 : Int32) → ∀ x4 : Int32, x4 = v3 + (1 : Int32) → rec S1 v2 x4) ∧ (¬ (S1.1 53 ((49 : Int32) + v3).toNatClampNeg) = (-9 : Int32) → (vp_in v2 6 ∧ ∀ S5 : St, S5 = setA S1 60 (upd (S1.1 60) v2.toNatClampNeg v3) → ∀ x6 : Int32, x6 = v2 + (1 : Int32) → ∀ x7 : Int32, x7 = v3 + (1 : Int32) → rec S5 x6 x7)))))))) (X7_swaps_L4 kx n)
def X7_swaps_L48 (S15 : St) (f14 : Int32) (kx : Int32 → Prop) : Nat → Int32 → Int32 → Prop
  | 0 => fun _ _ => False
  | n + 1 => (fun (rec : Int32 → Int32 → Prop) => fun (v12 : Int32) (v13 : Int32) => ((f14 ≤ v13 → kx v12) ∧ (¬ f14 ≤ v13 → ∀ x16 : Int32, x16 = v12 * f14 → ∀ x17 : Int32, x17 = v13 + (1 : Int32) → rec x16 x17))) (X7_swaps_L48 S15 f14 kx n)
def X7_swaps_L85 (f29 : Int32) (f30 : Int32) (f31 : Int32) (f32 : Int32) (kx : St → Int32 → Prop) : Nat → St → Int32 → Int32 → Int32 → Prop
  | 0 => fun _ _ _ _ => False
  | n + 1 => (fun (rec : St → Int32 → Int32 → Int32 → Prop) => fun (S25 : St) (v26 : Int32) (v27 : Int32) (v28 : Int32) => ((f29 ≤ v28 → kx S25 v27) ∧ (¬ f29 ≤ v28 → (¬ f29 = 0 ∧ (vp_in v28 6 ∧ ∀ S33 : St, S33 = setA S25 61 (upd (S25.1 61) v28.toNatClampNeg (v26 - v26 / f29 * f29)) → (¬ f29 = 0 ∧ ∀ x34 : Int32, x34 = v26 / f29 → (vp_in v28 6 ∧ ∀ x35 : Int32, x35 = v27 ||| ((1 : Int32) <<< ((S33.1 61 v28.toNatClampNeg) &&& 31)) → ∀ x36 : Int32, x36 = v28 + (1 : Int32) → rec S33 x34 x35 x36))))))) (X7_swaps_L85 f29 f30 f31 f32 kx n)
def X7_swaps_L69 (f23 : Int32) (f24 : Int32) (kx : St → Int32 → Prop) : Nat → St → Int32 → Int32 → Prop
  | 0 => fun _ _ _ => False
  | n + 1 => (fun (rec : St → Int32 → Int32 → Prop) => fun (S20 : St) (v21 : Int32) (v22 : Int32) => ((f24 ≤ v22 → kx S20 v21) ∧ (¬ f24 ≤ v22 → (∃ n : Nat, X7_swaps_L85 f23 f24 v21 v22 (fun (S39 : St) (v40 : Int32) => ((¬ v40 = (((1 : Int32) <<< (f23 &&& 31)) - (1 : Int32)) → ∀ x41 : Int32, x41 = v22 + (1 : Int32) → rec S39 v21 x41) ∧ (v40 = (((1 : Int32) <<< (f23 &&& 31)) - (1 : Int32)) → (w_X7_comesOut S39 f23 (fun r42 => ((r42 = 0 → ∀ x43 : Int32, x43 = v22 + (1 : Int32) → rec S39 v21 x43) ∧ (¬ r42 = 0 → (w_X7_exchanges S39 f23 (fun r44 => ((v21 = (-9 : Int32) → ∀ x45 : Int32, x45 = v22 + (1 : Int32) → rec S39 r44 x45) ∧ (¬ v21 = (-9 : Int32) → ((v21 ≤ r44 → ∀ x46 : Int32, x46 = v22 + (1 : Int32) → rec S39 v21 x46) ∧ (¬ v21 ≤ r44 → ∀ x47 : Int32, x47 = v22 + (1 : Int32) → rec S39 r44 x47))))))))))))) n S20 v22 (0 : Int32) (0 : Int32))))) (X7_swaps_L69 f23 f24 kx n)
def w_X7_swaps (S0 : St)  (Q : Int32 → St → Prop) : Prop :=
  (∃ n : Nat, X7_swaps_L4 (fun (S10 : St) (v11 : Int32) => (∃ n : Nat, X7_swaps_L48 S10 v11 (fun (v19 : Int32) => (∃ n : Nat, X7_swaps_L69 v11 v19 (fun (S50 : St) (v51 : Int32) => Q v51 S50) n S10 (-9 : Int32) (0 : Int32))) n (1 : Int32) (0 : Int32))) n S0 (0 : Int32) (0 : Int32))
set_option maxRecDepth 100000 in
set_option maxHeartbeats 4000000 in
theorem l_X7_swaps_L4 {Z : Zt} {e : GE} {kx : St → Int32 → Prop} (hk : ∀ (S8 : St) (v9 : Int32), kx S8 v9 → MW Z e cX7_swaps 8 RX7 5 44 [(0, .ref (e.2.2.1 49)), (1, .int v9)] [] S8) : ∀ (n : Nat) (S1 : St) (v2 : Int32) (v3 : Int32), X7_swaps_L4 kx n S1 v2 v3 → MW Z e cX7_swaps 8 RX7 5 4 [(0, .ref (e.2.2.1 49)), (1, .int v2), (2, .int v3)] [] S1 := by
  intro n
  induction n with
  | zero =>
    intro S1 v2 v3 h
    exact h.elim
  | succ n ih =>
    intro S1 v2 v3 h
    rw [X7_swaps_L4] at h
    refine m_iload_n dX7_swaps_4 2 rfl rfl ?_
    refine m_aload_n dX7_swaps_5 0 rfl rfl ?_
    refine m_get 49 3 (o_49 e _) rfl inlX7 (by decide) q5_15 rfl dX7_swaps_6 ?_
    refine m_iconst (v := 0) dX7_swaps_9 (by decide) ?_
    refine m_iald 51 (a_51 e _) h.1 dX7_swaps_10 ?_
    replace h := h.2
    refine m_icmp_ge (tgt := 44) dX7_swaps_11 (by decide) (fun z => ?_) (fun z => ?_)
    · replace h := h.1 z
      refine m_loc [0, 1] rfl ?_
      exact hk S1 v2 h
    · replace h := h.2 z
      refine m_aload_n dX7_swaps_14 0 rfl rfl ?_
      refine m_get 49 5 (o_49 e _) rfl inlX7 (by decide) q5_17 rfl dX7_swaps_15 ?_
      refine m_bipush (v := 49) dX7_swaps_18 (by decide) ?_
      refine m_iload_n dX7_swaps_20 2 rfl rfl ?_
      refine m_iadd dX7_swaps_21 ?_
      refine m_iald 53 (a_53 e _) h.1 dX7_swaps_22 ?_
      replace h := h.2
      refine m_bipush (v := -9) dX7_swaps_23 (by decide) ?_
      refine m_icmp_eq (tgt := 38) dX7_swaps_25 (by decide) (fun z => ?_) (fun z => ?_)
      · replace h := h.1 z
        obtain ⟨x4, ex4⟩ : ∃ y : Int32, y = v3 + (1 : Int32) := ⟨_, rfl⟩
        replace h := h x4 ex4
        refine m_iinc (v := x4) (lv2 := [(2, .int x4), (0, .ref (e.2.2.1 49)), (1, .int v2)]) dX7_swaps_38 2 rfl ex4.symm (by decide) rfl ?_
        refine m_goto (tgt := 4) dX7_swaps_41 (by decide) ?_
        refine m_loc [1, 2, 0] rfl ?_
        exact ih S1 v2 x4 h
      · replace h := h.2 z
        refine m_aload_n dX7_swaps_28 0 rfl rfl ?_
        refine m_get 49 17 (o_49 e _) rfl inlX7 (by decide) q6_0 rfl dX7_swaps_29 ?_
        refine m_iload_n dX7_swaps_32 1 rfl rfl ?_
        refine m_iload_n dX7_swaps_33 2 rfl rfl ?_
        refine m_iast 60 (a_60 e _) (aw_60 e _) h.1 dX7_swaps_34 (fun S5 eS5 => ?_)
        replace h := h.2 S5 eS5
        obtain ⟨x6, ex6⟩ : ∃ y : Int32, y = v2 + (1 : Int32) := ⟨_, rfl⟩
        replace h := h x6 ex6
        refine m_iinc (v := x6) (lv2 := [(1, .int x6), (0, .ref (e.2.2.1 49)), (2, .int v3)]) dX7_swaps_35 1 rfl ex6.symm (by decide) rfl ?_
        obtain ⟨x7, ex7⟩ : ∃ y : Int32, y = v3 + (1 : Int32) := ⟨_, rfl⟩
        replace h := h x7 ex7
        refine m_iinc (v := x7) (lv2 := [(2, .int x7), (1, .int x6), (0, .ref (e.2.2.1 49))]) dX7_swaps_38 2 rfl ex7.symm (by decide) rfl ?_
        refine m_goto (tgt := 4) dX7_swaps_41 (by decide) ?_
        refine m_loc [2, 1, 0] rfl ?_
        exact ih S5 x6 x7 h
set_option maxRecDepth 100000 in
set_option maxHeartbeats 4000000 in
theorem l_X7_swaps_L48 {Z : Zt} {e : GE} {S15 : St} {f14 : Int32} {kx : Int32 → Prop} (hk : ∀ (v18 : Int32), kx v18 → MW Z e cX7_swaps 8 RX7 5 63 [(0, .ref (e.2.2.1 49)), (1, .int f14), (2, .int v18)] [] S15) : ∀ (n : Nat) (v12 : Int32) (v13 : Int32), X7_swaps_L48 S15 f14 kx n v12 v13 → MW Z e cX7_swaps 8 RX7 5 48 [(0, .ref (e.2.2.1 49)), (1, .int f14), (2, .int v12), (3, .int v13)] [] S15 := by
  intro n
  induction n with
  | zero =>
    intro v12 v13 h
    exact h.elim
  | succ n ih =>
    intro v12 v13 h
    rw [X7_swaps_L48] at h
    refine m_iload_n dX7_swaps_48 3 rfl rfl ?_
    refine m_iload_n dX7_swaps_49 1 rfl rfl ?_
    refine m_icmp_ge (tgt := 63) dX7_swaps_50 (by decide) (fun z => ?_) (fun z => ?_)
    · replace h := h.1 z
      refine m_loc [0, 1, 2] rfl ?_
      exact hk v12 h
    · replace h := h.2 z
      refine m_iload_n dX7_swaps_53 2 rfl rfl ?_
      refine m_iload_n dX7_swaps_54 1 rfl rfl ?_
      refine m_imul dX7_swaps_55 ?_
      refine m_topi (fun x16 ex16 => ?_)
      replace h := h x16 ex16
      refine m_istore_n (lv2 := [(2, .int x16), (0, .ref (e.2.2.1 49)), (1, .int f14), (3, .int v13)]) dX7_swaps_56 rfl (by decide) rfl ?_
      obtain ⟨x17, ex17⟩ : ∃ y : Int32, y = v13 + (1 : Int32) := ⟨_, rfl⟩
      replace h := h x17 ex17
      refine m_iinc (v := x17) (lv2 := [(3, .int x17), (2, .int x16), (0, .ref (e.2.2.1 49)), (1, .int f14)]) dX7_swaps_57 3 rfl ex17.symm (by decide) rfl ?_
      refine m_goto (tgt := 48) dX7_swaps_60 (by decide) ?_
      refine m_loc [2, 3, 1, 0] rfl ?_
      exact ih x16 x17 h
set_option maxRecDepth 100000 in
set_option maxHeartbeats 4000000 in
theorem l_X7_swaps_L85 {Z : Zt} {e : GE} {f29 : Int32} {f30 : Int32} {f31 : Int32} {f32 : Int32} {kx : St → Int32 → Prop} (hk : ∀ (S37 : St) (v38 : Int32), kx S37 v38 → MW Z e cX7_swaps 8 RX7 5 128 [(0, .ref (e.2.2.1 49)), (1, .int f29), (2, .int f30), (3, .int f31), (4, .int f32), (6, .int v38)] [] S37) : ∀ (n : Nat) (S25 : St) (v26 : Int32) (v27 : Int32) (v28 : Int32), X7_swaps_L85 f29 f30 f31 f32 kx n S25 v26 v27 v28 → MW Z e cX7_swaps 8 RX7 5 85 [(0, .ref (e.2.2.1 49)), (1, .int f29), (2, .int f30), (3, .int f31), (4, .int f32), (5, .int v26), (6, .int v27), (7, .int v28)] [] S25 := by
  intro n
  induction n with
  | zero =>
    intro S25 v26 v27 v28 h
    exact h.elim
  | succ n ih =>
    intro S25 v26 v27 v28 h
    rw [X7_swaps_L85] at h
    refine m_iload dX7_swaps_85 7 rfl ?_
    refine m_iload_n dX7_swaps_87 1 rfl rfl ?_
    refine m_icmp_ge (tgt := 128) dX7_swaps_88 (by decide) (fun z => ?_) (fun z => ?_)
    · replace h := h.1 z
      refine m_loc [0, 1, 2, 3, 4, 6] rfl ?_
      exact hk S25 v27 h
    · replace h := h.2 z
      refine m_aload_n dX7_swaps_91 0 rfl rfl ?_
      refine m_get 49 18 (o_49 e _) rfl inlX7 (by decide) q6_1 rfl dX7_swaps_92 ?_
      refine m_iload dX7_swaps_95 7 rfl ?_
      refine m_iload dX7_swaps_97 5 rfl ?_
      refine m_iload_n dX7_swaps_99 1 rfl rfl ?_
      refine m_irem dX7_swaps_100 h.1 ?_
      replace h := h.2
      refine m_iast 61 (a_61 e _) (aw_61 e _) h.1 dX7_swaps_101 (fun S33 eS33 => ?_)
      replace h := h.2 S33 eS33
      refine m_iload dX7_swaps_102 5 rfl ?_
      refine m_iload_n dX7_swaps_104 1 rfl rfl ?_
      refine m_idiv dX7_swaps_105 h.1 ?_
      replace h := h.2
      refine m_topi (fun x34 ex34 => ?_)
      replace h := h x34 ex34
      refine m_istore (lv2 := [(5, .int x34), (0, .ref (e.2.2.1 49)), (1, .int f29), (2, .int f30), (3, .int f31), (4, .int f32), (6, .int v27), (7, .int v28)]) dX7_swaps_106 (by decide) rfl ?_
      refine m_iload dX7_swaps_108 6 rfl ?_
      refine m_iconst (v := 1) dX7_swaps_110 (by decide) ?_
      refine m_aload_n dX7_swaps_111 1 rfl rfl ?_
      refine m_get 49 18 (o_49 e _) rfl inlX7 (by decide) q6_1 rfl dX7_swaps_112 ?_
      refine m_iload dX7_swaps_115 7 rfl ?_
      refine m_iald 61 (a_61 e _) h.1 dX7_swaps_117 ?_
      replace h := h.2
      refine m_ishl dX7_swaps_118 ?_
      refine m_ior dX7_swaps_119 ?_
      refine m_topi (fun x35 ex35 => ?_)
      replace h := h x35 ex35
      refine m_istore (lv2 := [(6, .int x35), (5, .int x34), (0, .ref (e.2.2.1 49)), (1, .int f29), (2, .int f30), (3, .int f31), (4, .int f32), (7, .int v28)]) dX7_swaps_120 (by decide) rfl ?_
      obtain ⟨x36, ex36⟩ : ∃ y : Int32, y = v28 + (1 : Int32) := ⟨_, rfl⟩
      replace h := h x36 ex36
      refine m_iinc (v := x36) (lv2 := [(7, .int x36), (6, .int x35), (5, .int x34), (0, .ref (e.2.2.1 49)), (1, .int f29), (2, .int f30), (3, .int f31), (4, .int f32)]) dX7_swaps_122 7 rfl ex36.symm (by decide) rfl ?_
      refine m_goto (tgt := 85) dX7_swaps_125 (by decide) ?_
      refine m_loc [3, 4, 5, 6, 7, 2, 1, 0] rfl ?_
      exact ih S33 x34 x35 x36 h
set_option maxRecDepth 100000 in
set_option maxHeartbeats 4000000 in
theorem l_X7_swaps_L69 {Z : Zt} {e : GE} {f23 : Int32} {f24 : Int32} {kx : St → Int32 → Prop} (hk : ∀ (S48 : St) (v49 : Int32), kx S48 v49 → MW Z e cX7_swaps 8 RX7 5 178 [(3, .int v49)] [] S48) : ∀ (n : Nat) (S20 : St) (v21 : Int32) (v22 : Int32), X7_swaps_L69 f23 f24 kx n S20 v21 v22 → MW Z e cX7_swaps 8 RX7 5 69 [(0, .ref (e.2.2.1 49)), (1, .int f23), (2, .int f24), (3, .int v21), (4, .int v22)] [] S20 := by
  intro n
  induction n with
  | zero =>
    intro S20 v21 v22 h
    exact h.elim
  | succ n ih =>
    intro S20 v21 v22 h
    rw [X7_swaps_L69] at h
    refine m_iload dX7_swaps_69 4 rfl ?_
    refine m_iload_n dX7_swaps_71 2 rfl rfl ?_
    refine m_icmp_ge (tgt := 178) dX7_swaps_72 (by decide) (fun z => ?_) (fun z => ?_)
    · replace h := h.1 z
      refine m_loc [3] rfl ?_
      exact hk S20 v21 h
    · replace h := h.2 z
      refine m_iload dX7_swaps_75 4 rfl ?_
      refine m_istore (lv2 := [(5, .int v22), (0, .ref (e.2.2.1 49)), (1, .int f23), (2, .int f24), (3, .int v21), (4, .int v22)]) dX7_swaps_77 (by decide) rfl ?_
      refine m_iconst (v := 0) dX7_swaps_79 (by decide) ?_
      refine m_istore (lv2 := [(6, .int (0 : Int32)), (5, .int v22), (0, .ref (e.2.2.1 49)), (1, .int f23), (2, .int f24), (3, .int v21), (4, .int v22)]) dX7_swaps_80 (by decide) rfl ?_
      refine m_iconst (v := 0) dX7_swaps_82 (by decide) ?_
      refine m_istore (lv2 := [(7, .int (0 : Int32)), (6, .int (0 : Int32)), (5, .int v22), (0, .ref (e.2.2.1 49)), (1, .int f23), (2, .int f24), (3, .int v21), (4, .int v22)]) dX7_swaps_83 (by decide) rfl ?_
      obtain ⟨n, h⟩ := h
      refine m_loc [3, 4, 5, 6, 7, 2, 1, 0] rfl ?_
      refine l_X7_swaps_L85 (fun S39 v40 h => ?_) n S20 v22 (0 : Int32) (0 : Int32) h
      refine m_iload dX7_swaps_128 5 rfl ?_
      refine m_iconst (v := 1) dX7_swaps_130 (by decide) ?_
      refine m_iload_n dX7_swaps_131 1 rfl rfl ?_
      refine m_ishl dX7_swaps_132 ?_
      refine m_iconst (v := 1) dX7_swaps_133 (by decide) ?_
      refine m_isub dX7_swaps_134 ?_
      refine m_icmp_ne (tgt := 172) dX7_swaps_135 (by decide) (fun z => ?_) (fun z => ?_)
      · replace h := h.1 z
        obtain ⟨x41, ex41⟩ : ∃ y : Int32, y = v22 + (1 : Int32) := ⟨_, rfl⟩
        replace h := h x41 ex41
        refine m_iinc (v := x41) (lv2 := [(4, .int x41), (0, .ref (e.2.2.1 49)), (1, .int f23), (2, .int f24), (3, .int v21), (6, .int v40)]) dX7_swaps_172 4 rfl ex41.symm (by decide) rfl ?_
        refine m_goto (tgt := 69) dX7_swaps_175 (by decide) ?_
        refine m_loc [1, 2, 3, 4, 0] rfl ?_
        exact ih S39 v21 x41 h
      · replace h := h.2 z
        refine m_aload_n dX7_swaps_138 0 rfl rfl ?_
        refine m_iload_n dX7_swaps_139 1 rfl rfl ?_
        refine m_callV 49 [.int f23] (c_X7_comesOut h) (o_49 e _) rfl rfl q29_5 q29_6 q29_7 q1_5 q29_8 t_X7_comesOut rfl (by omega) (by decide) (Nat.le_of_ble_eq_true rfl) rfl dX7_swaps_140 (kR (P := MW Z e cX7_swaps 8 RX7 5 143 [(0, .ref (e.2.2.1 49)), (1, .int f23), (2, .int f24), (3, .int v21), (4, .int v22), (6, .int v40)]) (fun r42 h => ?_))
        refine m_if_eq (tgt := 172) dX7_swaps_143 (by decide) (fun z => ?_) (fun z => ?_)
        · replace h := h.1 z
          obtain ⟨x43, ex43⟩ : ∃ y : Int32, y = v22 + (1 : Int32) := ⟨_, rfl⟩
          replace h := h x43 ex43
          refine m_iinc (v := x43) (lv2 := [(4, .int x43), (0, .ref (e.2.2.1 49)), (1, .int f23), (2, .int f24), (3, .int v21), (6, .int v40)]) dX7_swaps_172 4 rfl ex43.symm (by decide) rfl ?_
          refine m_goto (tgt := 69) dX7_swaps_175 (by decide) ?_
          refine m_loc [1, 2, 3, 4, 0] rfl ?_
          exact ih S39 v21 x43 h
        · replace h := h.2 z
          refine m_aload_n dX7_swaps_146 0 rfl rfl ?_
          refine m_iload_n dX7_swaps_147 1 rfl rfl ?_
          refine m_callV 49 [.int f23] (c_X7_exchanges h) (o_49 e _) rfl rfl q29_9 q29_10 q29_11 q1_5 q29_12 t_X7_exchanges rfl (by omega) (by decide) (Nat.le_of_ble_eq_true rfl) rfl dX7_swaps_148 (kR (P := MW Z e cX7_swaps 8 RX7 5 151 [(0, .ref (e.2.2.1 49)), (1, .int f23), (2, .int f24), (3, .int v21), (4, .int v22), (6, .int v40)]) (fun r44 h => ?_))
          refine m_istore (lv2 := [(7, .int r44), (0, .ref (e.2.2.1 49)), (1, .int f23), (2, .int f24), (3, .int v21), (4, .int v22), (6, .int v40)]) dX7_swaps_151 (by decide) rfl ?_
          refine m_iload_n dX7_swaps_153 4 rfl rfl ?_
          refine m_bipush (v := -9) dX7_swaps_154 (by decide) ?_
          refine m_icmp_eq (tgt := 165) dX7_swaps_156 (by decide) (fun z => ?_) (fun z => ?_)
          · replace h := h.1 z
            refine m_iload dX7_swaps_165 0 rfl ?_
            refine m_goto (tgt := 171) dX7_swaps_167 (by decide) ?_
            refine m_istore_n (lv2 := [(3, .int r44), (7, .int r44), (0, .ref (e.2.2.1 49)), (1, .int f23), (2, .int f24), (4, .int v22), (6, .int v40)]) dX7_swaps_171 rfl (by decide) rfl ?_
            obtain ⟨x45, ex45⟩ : ∃ y : Int32, y = v22 + (1 : Int32) := ⟨_, rfl⟩
            replace h := h x45 ex45
            refine m_iinc (v := x45) (lv2 := [(4, .int x45), (3, .int r44), (7, .int r44), (0, .ref (e.2.2.1 49)), (1, .int f23), (2, .int f24), (6, .int v40)]) dX7_swaps_172 5 rfl ex45.symm (by decide) rfl ?_
            refine m_goto (tgt := 69) dX7_swaps_175 (by decide) ?_
            refine m_loc [3, 4, 5, 1, 0] rfl ?_
            exact ih S39 r44 x45 h
          · replace h := h.2 z
            refine m_iload dX7_swaps_159 0 rfl ?_
            refine m_iload_n dX7_swaps_161 4 rfl rfl ?_
            refine m_icmp_ge (tgt := 170) dX7_swaps_162 (by decide) (fun z => ?_) (fun z => ?_)
            · replace h := h.1 z
              refine m_iload_n dX7_swaps_170 4 rfl rfl ?_
              refine m_istore_n (lv2 := [(3, .int v21), (7, .int r44), (0, .ref (e.2.2.1 49)), (1, .int f23), (2, .int f24), (4, .int v22), (6, .int v40)]) dX7_swaps_171 rfl (by decide) rfl ?_
              obtain ⟨x46, ex46⟩ : ∃ y : Int32, y = v22 + (1 : Int32) := ⟨_, rfl⟩
              replace h := h x46 ex46
              refine m_iinc (v := x46) (lv2 := [(4, .int x46), (3, .int v21), (7, .int r44), (0, .ref (e.2.2.1 49)), (1, .int f23), (2, .int f24), (6, .int v40)]) dX7_swaps_172 5 rfl ex46.symm (by decide) rfl ?_
              refine m_goto (tgt := 69) dX7_swaps_175 (by decide) ?_
              refine m_loc [3, 4, 5, 1, 0] rfl ?_
              exact ih S39 v21 x46 h
            · replace h := h.2 z
              refine m_iload dX7_swaps_165 0 rfl ?_
              refine m_goto (tgt := 171) dX7_swaps_167 (by decide) ?_
              refine m_istore_n (lv2 := [(3, .int r44), (7, .int r44), (0, .ref (e.2.2.1 49)), (1, .int f23), (2, .int f24), (4, .int v22), (6, .int v40)]) dX7_swaps_171 rfl (by decide) rfl ?_
              obtain ⟨x47, ex47⟩ : ∃ y : Int32, y = v22 + (1 : Int32) := ⟨_, rfl⟩
              replace h := h x47 ex47
              refine m_iinc (v := x47) (lv2 := [(4, .int x47), (3, .int r44), (7, .int r44), (0, .ref (e.2.2.1 49)), (1, .int f23), (2, .int f24), (6, .int v40)]) dX7_swaps_172 5 rfl ex47.symm (by decide) rfl ?_
              refine m_goto (tgt := 69) dX7_swaps_175 (by decide) ?_
              refine m_loc [3, 4, 5, 1, 0] rfl ?_
              exact ih S39 r44 x47 h
set_option maxRecDepth 100000 in
set_option maxHeartbeats 4000000 in
theorem c_X7_swaps {e : GE} {S0 : St}  {Q : Int32 → St → Prop} (h : w_X7_swaps S0  Q) : CT e yX7_swaps cX7_swaps 8 (some .int) 5 [.ref (e.2.2.1 49)] S0 (pI Q) := by
  refine CT.of (by decide) (Nat.le_of_ble_eq_true rfl) (fun Z hR => ?_)
  rw [w_X7_swaps] at h
  show MW Z e cX7_swaps 8 RX7 5 0 [(0, .ref (e.2.2.1 49))] [] S0
  refine m_iconst (v := 0) dX7_swaps_0 (by decide) ?_
  refine m_istore_n (lv2 := [(1, .int (0 : Int32)), (0, .ref (e.2.2.1 49))]) dX7_swaps_1 rfl (by decide) rfl ?_
  refine m_iconst (v := 0) dX7_swaps_2 (by decide) ?_
  refine m_istore_n (lv2 := [(2, .int (0 : Int32)), (1, .int (0 : Int32)), (0, .ref (e.2.2.1 49))]) dX7_swaps_3 rfl (by decide) rfl ?_
  obtain ⟨n, h⟩ := h
  refine m_loc [2, 1, 0] rfl ?_
  refine l_X7_swaps_L4 (fun S10 v11 h => ?_) n S0 (0 : Int32) (0 : Int32) h
  refine m_iconst (v := 1) dX7_swaps_44 (by decide) ?_
  refine m_istore_n (lv2 := [(2, .int (1 : Int32)), (0, .ref (e.2.2.1 49)), (1, .int v11)]) dX7_swaps_45 rfl (by decide) rfl ?_
  refine m_iconst (v := 0) dX7_swaps_46 (by decide) ?_
  refine m_istore_n (lv2 := [(3, .int (0 : Int32)), (2, .int (1 : Int32)), (0, .ref (e.2.2.1 49)), (1, .int v11)]) dX7_swaps_47 rfl (by decide) rfl ?_
  obtain ⟨n, h⟩ := h
  refine m_loc [2, 3, 1, 0] rfl ?_
  refine l_X7_swaps_L48 (fun v19 h => ?_) n (1 : Int32) (0 : Int32) h
  refine m_bipush (v := -9) dX7_swaps_63 (by decide) ?_
  refine m_istore_n (lv2 := [(3, .int (-9 : Int32)), (0, .ref (e.2.2.1 49)), (1, .int v11), (2, .int v19)]) dX7_swaps_65 rfl (by decide) rfl ?_
  refine m_iconst (v := 0) dX7_swaps_66 (by decide) ?_
  refine m_istore (lv2 := [(4, .int (0 : Int32)), (3, .int (-9 : Int32)), (0, .ref (e.2.2.1 49)), (1, .int v11), (2, .int v19)]) dX7_swaps_67 (by decide) rfl ?_
  obtain ⟨n, h⟩ := h
  refine m_loc [2, 3, 4, 1, 0] rfl ?_
  refine l_X7_swaps_L69 (fun S50 v51 h => ?_) n S10 (-9 : Int32) (0 : Int32) h
  refine m_iload_n dX7_swaps_178 0 rfl rfl ?_
  exact m_iret hR ⟨_, rfl, h⟩ dX7_swaps_179
def X7_rate_L96 (S11 : St) (f9 : Int32) (f10 : Int32) (kx : Int32 → Prop) : Nat → Int32 → Int32 → Prop
  | 0 => fun _ _ => False
  | n + 1 => (fun (rec : Int32 → Int32 → Prop) => fun (v7 : Int32) (v8 : Int32) => (((10 : Int32) ≤ v8 → kx v7) ∧ (¬ (10 : Int32) ≤ v8 → (w_X7_paintOf S11 f10 v8  (fun r12 => ((r12 ≤ 0 → ∀ x13 : Int32, x13 = v7 + (0 : Int32) → ∀ x14 : Int32, x14 = v8 + (1 : Int32) → rec x13 x14) ∧ (¬ r12 ≤ 0 → ∀ x15 : Int32, x15 = v7 + (1 : Int32) → ∀ x16 : Int32, x16 = v8 + (1 : Int32) → rec x15 x16))))))) (X7_rate_L96 S11 f9 f10 kx n)
def X7_rate_L140 (S25 : St) (f22 : Int32) (f23 : Int32) (f24 : Int32) (kx : Int32 → Prop) : Nat → Int32 → Int32 → Prop
  | 0 => fun _ _ => False
  | n + 1 => (fun (rec : Int32 → Int32 → Prop) => fun (v20 : Int32) (v21 : Int32) => (vp_in (0 : Int32) 55 ∧ (((S25.1 53 (0 : Int32).toNatClampNeg) ≤ v21 → kx v20) ∧ (¬ (S25.1 53 (0 : Int32).toNatClampNeg) ≤ v21 → (vp_in ((13 : Int32) + v21) 55 ∧ ((¬ (S25.1 53 ((13 : Int32) + v21).toNatClampNeg) = f23 → ∀ x26 : Int32, x26 = v20 - (0 : Int32) → ∀ x27 : Int32, x27 = v21 + (1 : Int32) → rec x26 x27) ∧ ((S25.1 53 ((13 : Int32) + v21).toNatClampNeg) = f23 → ∀ x28 : Int32, x28 = v20 - (1 : Int32) → ∀ x29 : Int32, x29 = v21 + (1 : Int32) → rec x28 x29))))))) (X7_rate_L140 S25 f22 f23 f24 kx n)
def w_X7_rate (S0 : St) (p1 : Int32) (p2 : Int32) (Q : Int32 → St → Prop) : Prop :=
  (w_X7_in p1 (0 : Int32) (5 : Int32)  (fun r1 => ((r1 = 0 → Q (-1000000 : Int32) S0) ∧ (¬ r1 = 0 → (w_X7_isBar S0 p2  (fun r2 => ((¬ r2 = 0 → (∀ J3 : Int64 → Prop, J3 = (fun (x4 : Int64) => ∀ S5 : St, S5 = setL S0 1 ((S0.2 1) + x4) → (vp_in ((4 : Int32) + p2) 47 ∧ ∀ x6 : Int32, x6 = S5.1 51 ((4 : Int32) + p2).toNatClampNeg → (∃ n : Nat, X7_rate_L96 S5 p1 p2 (fun (v18 : Int32) => (vp_in ((4 : Int32) + p2) 47 ∧ ∀ x19 : Int32, x19 = S5.1 51 ((4 : Int32) + p2).toNatClampNeg → (∃ n : Nat, X7_rate_L140 S5 p1 p2 v18 (fun (v31 : Int32) => ((¬ p1 = 0 → ((¬ p1 = (1 : Int32) → ((¬ p1 = (2 : Int32) → ((¬ p1 = (3 : Int32) → ((¬ p1 = (4 : Int32) → (vp_in ((4 : Int32) + p2) 47 ∧ (w_X7_rustOf S5 p2 (9 : Int32) (fun r32 => Q ((S5.1 51 ((4 : Int32) + p2).toNatClampNeg) + r32) S5)))) ∧ (p1 = (4 : Int32) → Q (v31 + p2) S5))) ∧ (p1 = (3 : Int32) → Q ((2 : Int32) * v18) S5))) ∧ (p1 = (2 : Int32) → Q v31 S5))) ∧ (p1 = (1 : Int32) → Q v18 S5))) ∧ (p1 = 0 → (vp_in ((4 : Int32) + p2) 47 ∧ Q (S5.1 51 ((4 : Int32) + p2).toNatClampNeg) S5)))) n x19 (0 : Int32)))) n x6 (0 : Int32)))) → ((¬ p1 = 0 → ((¬ p1 = (1 : Int32) → ((¬ p1 = (2 : Int32) → ((¬ p1 = (3 : Int32) → ((¬ p1 = (4 : Int32) → J3 (100001 : Int64)) ∧ (p1 = (4 : Int32) → J3 (10101 : Int64)))) ∧ (p1 = (3 : Int32) → J3 (1011 : Int64)))) ∧ (p1 = (2 : Int32) → J3 (101 : Int64)))) ∧ (p1 = (1 : Int32) → J3 (11 : Int64)))) ∧ (p1 = 0 → J3 (1 : Int64))))) ∧ (r2 = 0 → Q (-1000000 : Int32) S0))))))))
set_option maxRecDepth 100000 in
set_option maxHeartbeats 4000000 in
theorem l_X7_rate_L96 {Z : Zt} {e : GE} {S11 : St} {f9 : Int32} {f10 : Int32} {kx : Int32 → Prop} (hk : ∀ (v17 : Int32), kx v17 → MW Z e cX7_rate 6 RX7 4 127 [(0, .ref (e.2.2.1 49)), (1, .int f9), (2, .int f10), (3, .int v17)] [] S11) : ∀ (n : Nat) (v7 : Int32) (v8 : Int32), X7_rate_L96 S11 f9 f10 kx n v7 v8 → MW Z e cX7_rate 6 RX7 4 96 [(0, .ref (e.2.2.1 49)), (1, .int f9), (2, .int f10), (3, .int v7), (4, .int v8)] [] S11 := by
  intro n
  induction n with
  | zero =>
    intro v7 v8 h
    exact h.elim
  | succ n ih =>
    intro v7 v8 h
    rw [X7_rate_L96] at h
    refine m_iload dX7_rate_96 4 rfl ?_
    refine m_bipush (v := 10) dX7_rate_98 (by decide) ?_
    refine m_icmp_ge (tgt := 127) dX7_rate_100 (by decide) (fun z => ?_) (fun z => ?_)
    · replace h := h.1 z
      refine m_loc [0, 1, 2, 3] rfl ?_
      exact hk v7 h
    · replace h := h.2 z
      refine m_iload_n dX7_rate_103 3 rfl rfl ?_
      refine m_aload_n dX7_rate_104 0 rfl rfl ?_
      refine m_iload_n dX7_rate_105 2 rfl rfl ?_
      refine m_iload dX7_rate_106 4 rfl ?_
      refine m_callV 49 [.int f10, .int v8] (c_X7_paintOf h) (o_49 e _) rfl rfl q18_5 q18_6 q18_7 q1_5 q18_8 t_X7_paintOf rfl (by omega) (by decide) (Nat.le_of_ble_eq_true rfl) rfl dX7_rate_108 (kR (P := MW Z e cX7_rate 6 RX7 4 111 [(0, .ref (e.2.2.1 49)), (1, .int f9), (2, .int f10), (3, .int v7), (4, .int v8)]) (fun r12 h => ?_))
      refine m_if_le (tgt := 118) dX7_rate_111 (by decide) (fun z => ?_) (fun z => ?_)
      · replace h := h.1 z
        refine m_iconst (v := 0) dX7_rate_118 (by decide) ?_
        refine m_iadd dX7_rate_119 ?_
        refine m_topi (fun x13 ex13 => ?_)
        replace h := h x13 ex13
        refine m_istore_n (lv2 := [(3, .int x13), (0, .ref (e.2.2.1 49)), (1, .int f9), (2, .int f10), (4, .int v8)]) dX7_rate_120 rfl (by decide) rfl ?_
        obtain ⟨x14, ex14⟩ : ∃ y : Int32, y = v8 + (1 : Int32) := ⟨_, rfl⟩
        replace h := h x14 ex14
        refine m_iinc (v := x14) (lv2 := [(4, .int x14), (3, .int x13), (0, .ref (e.2.2.1 49)), (1, .int f9), (2, .int f10)]) dX7_rate_121 4 rfl ex14.symm (by decide) rfl ?_
        refine m_goto (tgt := 96) dX7_rate_124 (by decide) ?_
        refine m_loc [2, 3, 4, 1, 0] rfl ?_
        exact ih x13 x14 h
      · replace h := h.2 z
        refine m_iconst (v := 1) dX7_rate_114 (by decide) ?_
        refine m_goto (tgt := 119) dX7_rate_115 (by decide) ?_
        refine m_iadd dX7_rate_119 ?_
        refine m_topi (fun x15 ex15 => ?_)
        replace h := h x15 ex15
        refine m_istore_n (lv2 := [(3, .int x15), (0, .ref (e.2.2.1 49)), (1, .int f9), (2, .int f10), (4, .int v8)]) dX7_rate_120 rfl (by decide) rfl ?_
        obtain ⟨x16, ex16⟩ : ∃ y : Int32, y = v8 + (1 : Int32) := ⟨_, rfl⟩
        replace h := h x16 ex16
        refine m_iinc (v := x16) (lv2 := [(4, .int x16), (3, .int x15), (0, .ref (e.2.2.1 49)), (1, .int f9), (2, .int f10)]) dX7_rate_121 4 rfl ex16.symm (by decide) rfl ?_
        refine m_goto (tgt := 96) dX7_rate_124 (by decide) ?_
        refine m_loc [2, 3, 4, 1, 0] rfl ?_
        exact ih x15 x16 h
set_option maxRecDepth 100000 in
set_option maxHeartbeats 4000000 in
theorem l_X7_rate_L140 {Z : Zt} {e : GE} {S25 : St} {f22 : Int32} {f23 : Int32} {f24 : Int32} {kx : Int32 → Prop} (hk : ∀ (v30 : Int32), kx v30 → MW Z e cX7_rate 6 RX7 4 181 [(0, .ref (e.2.2.1 49)), (1, .int f22), (2, .int f23), (3, .int f24), (4, .int v30)] [] S25) : ∀ (n : Nat) (v20 : Int32) (v21 : Int32), X7_rate_L140 S25 f22 f23 f24 kx n v20 v21 → MW Z e cX7_rate 6 RX7 4 140 [(0, .ref (e.2.2.1 49)), (1, .int f22), (2, .int f23), (3, .int f24), (4, .int v20), (5, .int v21)] [] S25 := by
  intro n
  induction n with
  | zero =>
    intro v20 v21 h
    exact h.elim
  | succ n ih =>
    intro v20 v21 h
    rw [X7_rate_L140] at h
    refine m_iload dX7_rate_140 5 rfl ?_
    refine m_aload_n dX7_rate_142 0 rfl rfl ?_
    refine m_get 49 5 (o_49 e _) rfl inlX7 (by decide) q5_17 rfl dX7_rate_143 ?_
    refine m_iconst (v := 0) dX7_rate_146 (by decide) ?_
    refine m_iald 53 (a_53 e _) h.1 dX7_rate_147 ?_
    replace h := h.2
    refine m_icmp_ge (tgt := 181) dX7_rate_148 (by decide) (fun z => ?_) (fun z => ?_)
    · replace h := h.1 z
      refine m_loc [0, 1, 2, 3, 4] rfl ?_
      exact hk v20 h
    · replace h := h.2 z
      refine m_iload dX7_rate_151 4 rfl ?_
      refine m_aload_n dX7_rate_153 0 rfl rfl ?_
      refine m_get 49 5 (o_49 e _) rfl inlX7 (by decide) q5_17 rfl dX7_rate_154 ?_
      refine m_bipush (v := 13) dX7_rate_157 (by decide) ?_
      refine m_iload dX7_rate_159 5 rfl ?_
      refine m_iadd dX7_rate_161 ?_
      refine m_iald 53 (a_53 e _) h.1 dX7_rate_162 ?_
      replace h := h.2
      refine m_iload_n dX7_rate_163 2 rfl rfl ?_
      refine m_icmp_ne (tgt := 171) dX7_rate_164 (by decide) (fun z => ?_) (fun z => ?_)
      · replace h := h.1 z
        refine m_iconst (v := 0) dX7_rate_171 (by decide) ?_
        refine m_isub dX7_rate_172 ?_
        refine m_topi (fun x26 ex26 => ?_)
        replace h := h x26 ex26
        refine m_istore (lv2 := [(4, .int x26), (0, .ref (e.2.2.1 49)), (1, .int f22), (2, .int f23), (3, .int f24), (5, .int v21)]) dX7_rate_173 (by decide) rfl ?_
        obtain ⟨x27, ex27⟩ : ∃ y : Int32, y = v21 + (1 : Int32) := ⟨_, rfl⟩
        replace h := h x27 ex27
        refine m_iinc (v := x27) (lv2 := [(5, .int x27), (4, .int x26), (0, .ref (e.2.2.1 49)), (1, .int f22), (2, .int f23), (3, .int f24)]) dX7_rate_175 5 rfl ex27.symm (by decide) rfl ?_
        refine m_goto (tgt := 140) dX7_rate_178 (by decide) ?_
        refine m_loc [2, 3, 4, 5, 1, 0] rfl ?_
        exact ih x26 x27 h
      · replace h := h.2 z
        refine m_iconst (v := 1) dX7_rate_167 (by decide) ?_
        refine m_goto (tgt := 172) dX7_rate_168 (by decide) ?_
        refine m_isub dX7_rate_172 ?_
        refine m_topi (fun x28 ex28 => ?_)
        replace h := h x28 ex28
        refine m_istore (lv2 := [(4, .int x28), (0, .ref (e.2.2.1 49)), (1, .int f22), (2, .int f23), (3, .int f24), (5, .int v21)]) dX7_rate_173 (by decide) rfl ?_
        obtain ⟨x29, ex29⟩ : ∃ y : Int32, y = v21 + (1 : Int32) := ⟨_, rfl⟩
        replace h := h x29 ex29
        refine m_iinc (v := x29) (lv2 := [(5, .int x29), (4, .int x28), (0, .ref (e.2.2.1 49)), (1, .int f22), (2, .int f23), (3, .int f24)]) dX7_rate_175 5 rfl ex29.symm (by decide) rfl ?_
        refine m_goto (tgt := 140) dX7_rate_178 (by decide) ?_
        refine m_loc [2, 3, 4, 5, 1, 0] rfl ?_
        exact ih x28 x29 h
set_option maxRecDepth 100000 in
set_option maxHeartbeats 4000000 in
theorem c_X7_rate {e : GE} {S0 : St} {p1 : Int32} {p2 : Int32} {Q : Int32 → St → Prop} (h : w_X7_rate S0 p1 p2 Q) : CT e yX7_rate cX7_rate 6 (some .int) 4 [.ref (e.2.2.1 49), .int p1, .int p2] S0 (pI Q) := by
  refine CT.of (by decide) (Nat.le_of_ble_eq_true rfl) (fun Z hR => ?_)
  rw [w_X7_rate] at h
  show MW Z e cX7_rate 6 RX7 4 0 [(0, .ref (e.2.2.1 49)), (1, .int p1), (2, .int p2)] [] S0
  refine m_iload_n dX7_rate_0 1 rfl rfl ?_
  refine m_iconst (v := 0) dX7_rate_1 (by decide) ?_
  refine m_iconst (v := 5) dX7_rate_2 (by decide) ?_
  refine m_callS [.int p1, .int (0 : Int32), .int (5 : Int32)] (c_X7_in h) q6_8 q6_9 q1_5 q6_10 t_X7_in rfl (by omega) (by decide) (Nat.le_of_ble_eq_true rfl) rfl dX7_rate_3 (kR (P := MW Z e cX7_rate 6 RX7 4 6 [(0, .ref (e.2.2.1 49)), (1, .int p1), (2, .int p2)]) (fun r1 h => ?_))
  refine m_if_eq (tgt := 17) dX7_rate_6 (by decide) (fun z => ?_) (fun z => ?_)
  · replace h := h.1 z
    refine m_ldc q31_11 dX7_rate_17 ?_
    exact m_iret hR ⟨_, rfl, h⟩ dX7_rate_19
  · replace h := h.2 z
    refine m_aload_n dX7_rate_9 0 rfl rfl ?_
    refine m_iload_n dX7_rate_10 2 rfl rfl ?_
    refine m_callV 49 [.int p2] (c_X7_isBar h) (o_49 e _) rfl rfl q16_4 q16_5 q16_6 q1_5 q16_7 t_X7_isBar rfl (by omega) (by decide) (Nat.le_of_ble_eq_true rfl) rfl dX7_rate_11 (kR (P := MW Z e cX7_rate 6 RX7 4 14 [(0, .ref (e.2.2.1 49)), (1, .int p1), (2, .int p2)]) (fun r2 h => ?_))
    refine m_if_ne (tgt := 20) dX7_rate_14 (by decide) (fun z => ?_) (fun z => ?_)
    · replace h := h.1 z
      refine m_aload_n dX7_rate_20 0 rfl rfl ?_
      refine m_dup dX7_rate_21 rfl ?_
      refine m_get 49 0 (o_49 e _) rfl inlX7 (by decide) q31_12 rfl dX7_rate_22 ?_
      refine m_iload_n dX7_rate_25 1 rfl rfl ?_
      obtain ⟨J3, eJ3, h⟩ := jn h
      have kJ3 : ∀ (x4 : Int64), J3 x4 → MW Z e cX7_rate 6 RX7 4 80 [(0, .ref (e.2.2.1 49)), (1, .int p1), (2, .int p2)] [.long x4, .long (S0.2 1), .ref (e.2.2.1 49)] S0 := by
        intro x4 h
        rw [eJ3] at h
        refine m_ladd dX7_rate_80 ?_
        refine m_put (S2 := setL S0 1 ((S0.2 1) + x4)) 49 0 tyX7 tyX7_ok nmX7 (o_49 e _) rfl inlX7 (by decide) q31_12 rfl (tyX7_ok 0 (by decide)) rfl rfl (Nat.le_of_ble_eq_true rfl) (p_49_0 e _ _) dX7_rate_81 (fun S5 eS5 => ?_)
        replace h := h S5 eS5
        refine m_aload_n dX7_rate_84 0 rfl rfl ?_
        refine m_get 49 3 (o_49 e _) rfl inlX7 (by decide) q5_15 rfl dX7_rate_85 ?_
        refine m_iconst (v := 4) dX7_rate_88 (by decide) ?_
        refine m_iload_n dX7_rate_89 2 rfl rfl ?_
        refine m_iadd dX7_rate_90 ?_
        refine m_iald 51 (a_51 e _) h.1 dX7_rate_91 ?_
        replace h := h.2
        refine m_topi (fun x6 ex6 => ?_)
        replace h := h x6 ex6
        refine m_istore_n (lv2 := [(3, .int x6), (0, .ref (e.2.2.1 49)), (1, .int p1), (2, .int p2)]) dX7_rate_92 rfl (by decide) rfl ?_
        refine m_iconst (v := 0) dX7_rate_93 (by decide) ?_
        refine m_istore (lv2 := [(4, .int (0 : Int32)), (3, .int x6), (0, .ref (e.2.2.1 49)), (1, .int p1), (2, .int p2)]) dX7_rate_94 (by decide) rfl ?_
        obtain ⟨n, h⟩ := h
        refine m_loc [2, 3, 4, 1, 0] rfl ?_
        refine l_X7_rate_L96 (fun v18 h => ?_) n x6 (0 : Int32) h
        refine m_aload_n dX7_rate_127 0 rfl rfl ?_
        refine m_get 49 3 (o_49 e _) rfl inlX7 (by decide) q5_15 rfl dX7_rate_128 ?_
        refine m_iconst (v := 4) dX7_rate_131 (by decide) ?_
        refine m_iload_n dX7_rate_132 2 rfl rfl ?_
        refine m_iadd dX7_rate_133 ?_
        refine m_iald 51 (a_51 e _) h.1 dX7_rate_134 ?_
        replace h := h.2
        refine m_topi (fun x19 ex19 => ?_)
        replace h := h x19 ex19
        refine m_istore (lv2 := [(4, .int x19), (0, .ref (e.2.2.1 49)), (1, .int p1), (2, .int p2), (3, .int v18)]) dX7_rate_135 (by decide) rfl ?_
        refine m_iconst (v := 0) dX7_rate_137 (by decide) ?_
        refine m_istore (lv2 := [(5, .int (0 : Int32)), (4, .int x19), (0, .ref (e.2.2.1 49)), (1, .int p1), (2, .int p2), (3, .int v18)]) dX7_rate_138 (by decide) rfl ?_
        obtain ⟨n, h⟩ := h
        refine m_loc [2, 3, 4, 5, 1, 0] rfl ?_
        refine l_X7_rate_L140 (fun v31 h => ?_) n x19 (0 : Int32) h
        refine m_iload_n dX7_rate_181 1 rfl rfl ?_
        refine m_if_ne (tgt := 196) dX7_rate_182 (by decide) (fun z => ?_) (fun z => ?_)
        · replace h := h.1 z
          refine m_iload_n dX7_rate_196 1 rfl rfl ?_
          refine m_iconst (v := 1) dX7_rate_197 (by decide) ?_
          refine m_icmp_ne (tgt := 205) dX7_rate_198 (by decide) (fun z => ?_) (fun z => ?_)
          · replace h := h.1 z
            refine m_iload_n dX7_rate_205 1 rfl rfl ?_
            refine m_iconst (v := 2) dX7_rate_206 (by decide) ?_
            refine m_icmp_ne (tgt := 215) dX7_rate_207 (by decide) (fun z => ?_) (fun z => ?_)
            · replace h := h.1 z
              refine m_iload_n dX7_rate_215 1 rfl rfl ?_
              refine m_iconst (v := 3) dX7_rate_216 (by decide) ?_
              refine m_icmp_ne (tgt := 226) dX7_rate_217 (by decide) (fun z => ?_) (fun z => ?_)
              · replace h := h.1 z
                refine m_iload_n dX7_rate_226 1 rfl rfl ?_
                refine m_iconst (v := 4) dX7_rate_227 (by decide) ?_
                refine m_icmp_ne (tgt := 238) dX7_rate_228 (by decide) (fun z => ?_) (fun z => ?_)
                · replace h := h.1 z
                  refine m_aload_n dX7_rate_238 0 rfl rfl ?_
                  refine m_get 49 3 (o_49 e _) rfl inlX7 (by decide) q5_15 rfl dX7_rate_239 ?_
                  refine m_iconst (v := 4) dX7_rate_242 (by decide) ?_
                  refine m_iload_n dX7_rate_243 2 rfl rfl ?_
                  refine m_iadd dX7_rate_244 ?_
                  refine m_iald 51 (a_51 e _) h.1 dX7_rate_245 ?_
                  replace h := h.2
                  refine m_aload_n dX7_rate_246 0 rfl rfl ?_
                  refine m_iload_n dX7_rate_247 2 rfl rfl ?_
                  refine m_bipush (v := 9) dX7_rate_248 (by decide) ?_
                  refine m_callV 49 [.int p2, .int (9 : Int32)] (c_X7_rustOf h) (o_49 e _) rfl rfl q20_20 q20_21 q20_22 q1_5 q20_23 t_X7_rustOf rfl (by omega) (by decide) (Nat.le_of_ble_eq_true rfl) rfl dX7_rate_250 (kR (P := MW Z e cX7_rate 6 RX7 4 253 [(0, .ref (e.2.2.1 49)), (1, .int p1), (2, .int p2), (3, .int v18), (4, .int v31)]) (fun r32 h => ?_))
                  refine m_iadd dX7_rate_253 ?_
                  exact m_iret hR ⟨_, rfl, h⟩ dX7_rate_254
                · replace h := h.2 z
                  refine m_iload dX7_rate_231 4 rfl ?_
                  refine m_iload_n dX7_rate_233 2 rfl rfl ?_
                  refine m_iadd dX7_rate_234 ?_
                  refine m_goto (tgt := 254) dX7_rate_235 (by decide) ?_
                  exact m_iret hR ⟨_, rfl, h⟩ dX7_rate_254
              · replace h := h.2 z
                refine m_iconst (v := 2) dX7_rate_220 (by decide) ?_
                refine m_iload_n dX7_rate_221 3 rfl rfl ?_
                refine m_imul dX7_rate_222 ?_
                refine m_goto (tgt := 254) dX7_rate_223 (by decide) ?_
                exact m_iret hR ⟨_, rfl, h⟩ dX7_rate_254
            · replace h := h.2 z
              refine m_iload dX7_rate_210 4 rfl ?_
              refine m_goto (tgt := 254) dX7_rate_212 (by decide) ?_
              exact m_iret hR ⟨_, rfl, h⟩ dX7_rate_254
          · replace h := h.2 z
            refine m_iload_n dX7_rate_201 3 rfl rfl ?_
            refine m_goto (tgt := 254) dX7_rate_202 (by decide) ?_
            exact m_iret hR ⟨_, rfl, h⟩ dX7_rate_254
        · replace h := h.2 z
          refine m_aload_n dX7_rate_185 0 rfl rfl ?_
          refine m_get 49 3 (o_49 e _) rfl inlX7 (by decide) q5_15 rfl dX7_rate_186 ?_
          refine m_iconst (v := 4) dX7_rate_189 (by decide) ?_
          refine m_iload_n dX7_rate_190 2 rfl rfl ?_
          refine m_iadd dX7_rate_191 ?_
          refine m_iald 51 (a_51 e _) h.1 dX7_rate_192 ?_
          replace h := h.2
          refine m_goto (tgt := 254) dX7_rate_193 (by decide) ?_
          exact m_iret hR ⟨_, rfl, h⟩ dX7_rate_254
      refine m_if_ne (tgt := 33) dX7_rate_26 (by decide) (fun z => ?_) (fun z => ?_)
      · replace h := h.1 z
        refine m_iload_n dX7_rate_33 1 rfl rfl ?_
        refine m_iconst (v := 1) dX7_rate_34 (by decide) ?_
        refine m_icmp_ne (tgt := 44) dX7_rate_35 (by decide) (fun z => ?_) (fun z => ?_)
        · replace h := h.1 z
          refine m_iload_n dX7_rate_44 1 rfl rfl ?_
          refine m_iconst (v := 2) dX7_rate_45 (by decide) ?_
          refine m_icmp_ne (tgt := 55) dX7_rate_46 (by decide) (fun z => ?_) (fun z => ?_)
          · replace h := h.1 z
            refine m_iload_n dX7_rate_55 1 rfl rfl ?_
            refine m_iconst (v := 3) dX7_rate_56 (by decide) ?_
            refine m_icmp_ne (tgt := 66) dX7_rate_57 (by decide) (fun z => ?_) (fun z => ?_)
            · replace h := h.1 z
              refine m_iload_n dX7_rate_66 1 rfl rfl ?_
              refine m_iconst (v := 4) dX7_rate_67 (by decide) ?_
              refine m_icmp_ne (tgt := 77) dX7_rate_68 (by decide) (fun z => ?_) (fun z => ?_)
              · replace h := h.1 z
                refine m_ldc2 q31_17 dX7_rate_77 ?_
                exact kJ3 (100001 : Int64) h
              · replace h := h.2 z
                refine m_ldc2 q31_16 dX7_rate_71 ?_
                refine m_goto (tgt := 80) dX7_rate_74 (by decide) ?_
                exact kJ3 (10101 : Int64) h
            · replace h := h.2 z
              refine m_ldc2 q31_15 dX7_rate_60 ?_
              refine m_goto (tgt := 80) dX7_rate_63 (by decide) ?_
              exact kJ3 (1011 : Int64) h
          · replace h := h.2 z
            refine m_ldc2 q31_14 dX7_rate_49 ?_
            refine m_goto (tgt := 80) dX7_rate_52 (by decide) ?_
            exact kJ3 (101 : Int64) h
        · replace h := h.2 z
          refine m_ldc2 q31_13 dX7_rate_38 ?_
          refine m_goto (tgt := 80) dX7_rate_41 (by decide) ?_
          exact kJ3 (11 : Int64) h
      · replace h := h.2 z
        refine m_lconst (v := 1) dX7_rate_29 (by decide) ?_
        refine m_goto (tgt := 80) dX7_rate_30 (by decide) ?_
        exact kJ3 (1 : Int64) h
    · replace h := h.2 z
      refine m_ldc q31_11 dX7_rate_17 ?_
      exact m_iret hR ⟨_, rfl, h⟩ dX7_rate_19
def X7_keep_L13 (f4 : Int32) (kx : St → Prop) : Nat → St → Int32 → Prop
  | 0 => fun _ _ => False
  | n + 1 => (fun (rec : St → Int32 → Prop) => fun (S2 : St) (v3 : Int32) => (((55 : Int32) ≤ v3 → kx S2) ∧ (¬ (55 : Int32) ≤ v3 → (vp_in v3 55 ∧ (vp_in (((55 : Int32) * f4) + v3) 110 ∧ ∀ S5 : St, S5 = setA S2 54 (upd (S2.1 54) (((55 : Int32) * f4) + v3).toNatClampNeg (S2.1 53 v3.toNatClampNeg)) → ∀ x6 : Int32, x6 = v3 + (1 : Int32) → rec S5 x6))))) (X7_keep_L13 f4 kx n)
def w_X7_keep (S0 : St) (p1 : Int32) (Q : Int32 → St → Prop) : Prop :=
  (w_X7_in p1 (0 : Int32) (1 : Int32)  (fun r1 => ((¬ r1 = 0 → (∃ n : Nat, X7_keep_L13 p1 (fun (S8 : St) => (vp_in p1 2 ∧ ∀ S9 : St, S9 = setA S8 55 (upd (S8.1 55) p1.toNatClampNeg (vp_nar .boolean (1 : Int32))) → (vp_in (0 : Int32) 55 ∧ Q (S9.1 53 (0 : Int32).toNatClampNeg) S9))) n S0 (0 : Int32))) ∧ (r1 = 0 → Q (-1 : Int32) S0))))
set_option maxRecDepth 100000 in
set_option maxHeartbeats 4000000 in
theorem l_X7_keep_L13 {Z : Zt} {e : GE} {f4 : Int32} {kx : St → Prop} (hk : ∀ (S7 : St), kx S7 → MW Z e cX7_keep 3 RX7 2 42 [(0, .ref (e.2.2.1 49)), (1, .int f4)] [] S7) : ∀ (n : Nat) (S2 : St) (v3 : Int32), X7_keep_L13 f4 kx n S2 v3 → MW Z e cX7_keep 3 RX7 2 13 [(0, .ref (e.2.2.1 49)), (1, .int f4), (2, .int v3)] [] S2 := by
  intro n
  induction n with
  | zero =>
    intro S2 v3 h
    exact h.elim
  | succ n ih =>
    intro S2 v3 h
    rw [X7_keep_L13] at h
    refine m_iload_n dX7_keep_13 2 rfl rfl ?_
    refine m_bipush (v := 55) dX7_keep_14 (by decide) ?_
    refine m_icmp_ge (tgt := 42) dX7_keep_16 (by decide) (fun z => ?_) (fun z => ?_)
    · replace h := h.1 z
      refine m_loc [0, 1] rfl ?_
      exact hk S2 h
    · replace h := h.2 z
      refine m_aload_n dX7_keep_19 0 rfl rfl ?_
      refine m_get 49 6 (o_49 e _) rfl inlX7 (by decide) q5_18 rfl dX7_keep_20 ?_
      refine m_bipush (v := 55) dX7_keep_23 (by decide) ?_
      refine m_iload_n dX7_keep_25 1 rfl rfl ?_
      refine m_imul dX7_keep_26 ?_
      refine m_iload_n dX7_keep_27 2 rfl rfl ?_
      refine m_iadd dX7_keep_28 ?_
      refine m_aload_n dX7_keep_29 0 rfl rfl ?_
      refine m_get 49 5 (o_49 e _) rfl inlX7 (by decide) q5_17 rfl dX7_keep_30 ?_
      refine m_iload_n dX7_keep_33 2 rfl rfl ?_
      refine m_iald 53 (a_53 e _) h.1 dX7_keep_34 ?_
      replace h := h.2
      refine m_iast 54 (a_54 e _) (aw_54 e _) h.1 dX7_keep_35 (fun S5 eS5 => ?_)
      replace h := h.2 S5 eS5
      obtain ⟨x6, ex6⟩ : ∃ y : Int32, y = v3 + (1 : Int32) := ⟨_, rfl⟩
      replace h := h x6 ex6
      refine m_iinc (v := x6) (lv2 := [(2, .int x6), (0, .ref (e.2.2.1 49)), (1, .int f4)]) dX7_keep_36 2 rfl ex6.symm (by decide) rfl ?_
      refine m_goto (tgt := 13) dX7_keep_39 (by decide) ?_
      refine m_loc [1, 2, 0] rfl ?_
      exact ih S5 x6 h
set_option maxRecDepth 100000 in
set_option maxHeartbeats 4000000 in
theorem c_X7_keep {e : GE} {S0 : St} {p1 : Int32} {Q : Int32 → St → Prop} (h : w_X7_keep S0 p1 Q) : CT e yX7_keep cX7_keep 3 (some .int) 2 [.ref (e.2.2.1 49), .int p1] S0 (pI Q) := by
  refine CT.of (by decide) (Nat.le_of_ble_eq_true rfl) (fun Z hR => ?_)
  rw [w_X7_keep] at h
  show MW Z e cX7_keep 3 RX7 2 0 [(0, .ref (e.2.2.1 49)), (1, .int p1)] [] S0
  refine m_iload_n dX7_keep_0 1 rfl rfl ?_
  refine m_iconst (v := 0) dX7_keep_1 (by decide) ?_
  refine m_iconst (v := 1) dX7_keep_2 (by decide) ?_
  refine m_callS [.int p1, .int (0 : Int32), .int (1 : Int32)] (c_X7_in h) q6_8 q6_9 q1_5 q6_10 t_X7_in rfl (by omega) (by decide) (Nat.le_of_ble_eq_true rfl) rfl dX7_keep_3 (kR (P := MW Z e cX7_keep 3 RX7 2 6 [(0, .ref (e.2.2.1 49)), (1, .int p1)]) (fun r1 h => ?_))
  refine m_if_ne (tgt := 11) dX7_keep_6 (by decide) (fun z => ?_) (fun z => ?_)
  · replace h := h.1 z
    refine m_iconst (v := 0) dX7_keep_11 (by decide) ?_
    refine m_istore_n (lv2 := [(2, .int (0 : Int32)), (0, .ref (e.2.2.1 49)), (1, .int p1)]) dX7_keep_12 rfl (by decide) rfl ?_
    obtain ⟨n, h⟩ := h
    refine m_loc [1, 2, 0] rfl ?_
    refine l_X7_keep_L13 (fun S8 h => ?_) n S0 (0 : Int32) h
    refine m_aload_n dX7_keep_42 0 rfl rfl ?_
    refine m_get 49 7 (o_49 e _) rfl inlX7 (by decide) q5_19 rfl dX7_keep_43 ?_
    refine m_iload_n dX7_keep_46 1 rfl rfl ?_
    refine m_iconst (v := 1) dX7_keep_47 (by decide) ?_
    refine m_zast 55 (a_55 e _) (aw_55 e _) h.1 dX7_keep_48 (fun S9 eS9 => ?_)
    replace h := h.2 S9 eS9
    refine m_aload_n dX7_keep_49 0 rfl rfl ?_
    refine m_get 49 5 (o_49 e _) rfl inlX7 (by decide) q5_17 rfl dX7_keep_50 ?_
    refine m_iconst (v := 0) dX7_keep_53 (by decide) ?_
    refine m_iald 53 (a_53 e _) h.1 dX7_keep_54 ?_
    replace h := h.2
    exact m_iret hR ⟨_, rfl, h⟩ dX7_keep_55
  · replace h := h.2 z
    refine m_iconst (v := -1) dX7_keep_9 (by decide) ?_
    exact m_iret hR ⟨_, rfl, h⟩ dX7_keep_10
def X7_back_L25 (f4 : Int32) (kx : St → Prop) : Nat → St → Int32 → Prop
  | 0 => fun _ _ => False
  | n + 1 => (fun (rec : St → Int32 → Prop) => fun (S2 : St) (v3 : Int32) => (((55 : Int32) ≤ v3 → kx S2) ∧ (¬ (55 : Int32) ≤ v3 → (vp_in (((55 : Int32) * f4) + v3) 110 ∧ (vp_in v3 55 ∧ ∀ S5 : St, S5 = setA S2 53 (upd (S2.1 53) v3.toNatClampNeg (S2.1 54 (((55 : Int32) * f4) + v3).toNatClampNeg)) → ∀ x6 : Int32, x6 = v3 + (1 : Int32) → rec S5 x6))))) (X7_back_L25 f4 kx n)
def w_X7_back (S0 : St) (p1 : Int32) (Q : Int32 → St → Prop) : Prop :=
  (w_X7_in p1 (0 : Int32) (1 : Int32)  (fun r1 => ((¬ r1 = 0 → (vp_in p1 2 ∧ ((¬ (S0.1 55 p1.toNatClampNeg) = 0 → (∃ n : Nat, X7_back_L25 p1 (fun (S8 : St) => (vp_in (0 : Int32) 55 ∧ Q (S8.1 53 (0 : Int32).toNatClampNeg) S8)) n S0 (0 : Int32))) ∧ ((S0.1 55 p1.toNatClampNeg) = 0 → Q (-2 : Int32) S0)))) ∧ (r1 = 0 → Q (-1 : Int32) S0))))
set_option maxRecDepth 100000 in
set_option maxHeartbeats 4000000 in
theorem l_X7_back_L25 {Z : Zt} {e : GE} {f4 : Int32} {kx : St → Prop} (hk : ∀ (S7 : St), kx S7 → MW Z e cX7_back 3 RX7 2 54 [(0, .ref (e.2.2.1 49))] [] S7) : ∀ (n : Nat) (S2 : St) (v3 : Int32), X7_back_L25 f4 kx n S2 v3 → MW Z e cX7_back 3 RX7 2 25 [(0, .ref (e.2.2.1 49)), (1, .int f4), (2, .int v3)] [] S2 := by
  intro n
  induction n with
  | zero =>
    intro S2 v3 h
    exact h.elim
  | succ n ih =>
    intro S2 v3 h
    rw [X7_back_L25] at h
    refine m_iload_n dX7_back_25 2 rfl rfl ?_
    refine m_bipush (v := 55) dX7_back_26 (by decide) ?_
    refine m_icmp_ge (tgt := 54) dX7_back_28 (by decide) (fun z => ?_) (fun z => ?_)
    · replace h := h.1 z
      refine m_loc [0] rfl ?_
      exact hk S2 h
    · replace h := h.2 z
      refine m_aload_n dX7_back_31 0 rfl rfl ?_
      refine m_get 49 5 (o_49 e _) rfl inlX7 (by decide) q5_17 rfl dX7_back_32 ?_
      refine m_iload_n dX7_back_35 2 rfl rfl ?_
      refine m_aload_n dX7_back_36 0 rfl rfl ?_
      refine m_get 49 6 (o_49 e _) rfl inlX7 (by decide) q5_18 rfl dX7_back_37 ?_
      refine m_bipush (v := 55) dX7_back_40 (by decide) ?_
      refine m_iload_n dX7_back_42 1 rfl rfl ?_
      refine m_imul dX7_back_43 ?_
      refine m_iload_n dX7_back_44 2 rfl rfl ?_
      refine m_iadd dX7_back_45 ?_
      refine m_iald 54 (a_54 e _) h.1 dX7_back_46 ?_
      replace h := h.2
      refine m_iast 53 (a_53 e _) (aw_53 e _) h.1 dX7_back_47 (fun S5 eS5 => ?_)
      replace h := h.2 S5 eS5
      obtain ⟨x6, ex6⟩ : ∃ y : Int32, y = v3 + (1 : Int32) := ⟨_, rfl⟩
      replace h := h x6 ex6
      refine m_iinc (v := x6) (lv2 := [(2, .int x6), (0, .ref (e.2.2.1 49)), (1, .int f4)]) dX7_back_48 2 rfl ex6.symm (by decide) rfl ?_
      refine m_goto (tgt := 25) dX7_back_51 (by decide) ?_
      refine m_loc [1, 2, 0] rfl ?_
      exact ih S5 x6 h
set_option maxRecDepth 100000 in
set_option maxHeartbeats 4000000 in
theorem c_X7_back {e : GE} {S0 : St} {p1 : Int32} {Q : Int32 → St → Prop} (h : w_X7_back S0 p1 Q) : CT e yX7_back cX7_back 3 (some .int) 2 [.ref (e.2.2.1 49), .int p1] S0 (pI Q) := by
  refine CT.of (by decide) (Nat.le_of_ble_eq_true rfl) (fun Z hR => ?_)
  rw [w_X7_back] at h
  show MW Z e cX7_back 3 RX7 2 0 [(0, .ref (e.2.2.1 49)), (1, .int p1)] [] S0
  refine m_iload_n dX7_back_0 1 rfl rfl ?_
  refine m_iconst (v := 0) dX7_back_1 (by decide) ?_
  refine m_iconst (v := 1) dX7_back_2 (by decide) ?_
  refine m_callS [.int p1, .int (0 : Int32), .int (1 : Int32)] (c_X7_in h) q6_8 q6_9 q1_5 q6_10 t_X7_in rfl (by omega) (by decide) (Nat.le_of_ble_eq_true rfl) rfl dX7_back_3 (kR (P := MW Z e cX7_back 3 RX7 2 6 [(0, .ref (e.2.2.1 49)), (1, .int p1)]) (fun r1 h => ?_))
  refine m_if_ne (tgt := 11) dX7_back_6 (by decide) (fun z => ?_) (fun z => ?_)
  · replace h := h.1 z
    refine m_aload_n dX7_back_11 0 rfl rfl ?_
    refine m_get 49 7 (o_49 e _) rfl inlX7 (by decide) q5_19 rfl dX7_back_12 ?_
    refine m_iload_n dX7_back_15 1 rfl rfl ?_
    refine m_zald 55 (a_55 e _) h.1 dX7_back_16 ?_
    replace h := h.2
    refine m_if_ne (tgt := 23) dX7_back_17 (by decide) (fun z => ?_) (fun z => ?_)
    · replace h := h.1 z
      refine m_iconst (v := 0) dX7_back_23 (by decide) ?_
      refine m_istore_n (lv2 := [(2, .int (0 : Int32)), (0, .ref (e.2.2.1 49)), (1, .int p1)]) dX7_back_24 rfl (by decide) rfl ?_
      obtain ⟨n, h⟩ := h
      refine m_loc [1, 2, 0] rfl ?_
      refine l_X7_back_L25 (fun S8 h => ?_) n S0 (0 : Int32) h
      refine m_aload_n dX7_back_54 0 rfl rfl ?_
      refine m_get 49 5 (o_49 e _) rfl inlX7 (by decide) q5_17 rfl dX7_back_55 ?_
      refine m_iconst (v := 0) dX7_back_58 (by decide) ?_
      refine m_iald 53 (a_53 e _) h.1 dX7_back_59 ?_
      replace h := h.2
      exact m_iret hR ⟨_, rfl, h⟩ dX7_back_60
    · replace h := h.2 z
      refine m_bipush (v := -2) dX7_back_20 (by decide) ?_
      exact m_iret hR ⟨_, rfl, h⟩ dX7_back_22
  · replace h := h.2 z
    refine m_iconst (v := -1) dX7_back_9 (by decide) ?_
    exact m_iret hR ⟨_, rfl, h⟩ dX7_back_10
def X7_count_L15 (S5 : St) (f4 : Int32) (kx : Int32 → Prop) : Nat → Int32 → Int32 → Prop
  | 0 => fun _ _ => False
  | n + 1 => (fun (rec : Int32 → Int32 → Prop) => fun (v2 : Int32) (v3 : Int32) => (vp_in (0 : Int32) 47 ∧ (((S5.1 51 (0 : Int32).toNatClampNeg) ≤ v3 → kx v2) ∧ (¬ (S5.1 51 (0 : Int32).toNatClampNeg) ≤ v3 → ((¬ f4 = (4 : Int32) → kx v2) ∧ (f4 = (4 : Int32) → (vp_in ((49 : Int32) + v3) 55 ∧ ((¬ (S5.1 53 ((49 : Int32) + v3).toNatClampNeg) = (-9 : Int32) → ∀ x6 : Int32, x6 = v2 + (1 : Int32) → ∀ x7 : Int32, x7 = v3 + (1 : Int32) → rec x6 x7) ∧ ((S5.1 53 ((49 : Int32) + v3).toNatClampNeg) = (-9 : Int32) → ∀ x8 : Int32, x8 = v2 + (0 : Int32) → ∀ x9 : Int32, x9 = v3 + (1 : Int32) → rec x8 x9))))))))) (X7_count_L15 S5 f4 kx n)
def w_X7_count (S0 : St) (p1 : Int32) (Q : Int32 → Prop) : Prop :=
  (w_X7_in p1 (0 : Int32) (5 : Int32)  (fun r1 => ((¬ r1 = 0 → (∃ n : Nat, X7_count_L15 S0 p1 (fun (v11 : Int32) => (((3 : Int32) ≤ p1 → ((¬ p1 = (3 : Int32) → ((¬ p1 = (4 : Int32) → Q (S0.1 5002 0)) ∧ (p1 = (4 : Int32) → Q v11))) ∧ (p1 = (3 : Int32) → (vp_in (0 : Int32) 55 ∧ Q (S0.1 53 (0 : Int32).toNatClampNeg))))) ∧ (¬ (3 : Int32) ≤ p1 → (vp_in p1 47 ∧ Q (S0.1 51 p1.toNatClampNeg))))) n (0 : Int32) (0 : Int32))) ∧ (r1 = 0 → Q (-1 : Int32)))))
set_option maxRecDepth 100000 in
set_option maxHeartbeats 4000000 in
theorem l_X7_count_L15 {Z : Zt} {e : GE} {S5 : St} {f4 : Int32} {kx : Int32 → Prop} (hk : ∀ (v10 : Int32), kx v10 → MW Z e cX7_count 4 RX7 2 58 [(0, .ref (e.2.2.1 49)), (1, .int f4), (2, .int v10)] [] S5) : ∀ (n : Nat) (v2 : Int32) (v3 : Int32), X7_count_L15 S5 f4 kx n v2 v3 → MW Z e cX7_count 4 RX7 2 15 [(0, .ref (e.2.2.1 49)), (1, .int f4), (2, .int v2), (3, .int v3)] [] S5 := by
  intro n
  induction n with
  | zero =>
    intro v2 v3 h
    exact h.elim
  | succ n ih =>
    intro v2 v3 h
    rw [X7_count_L15] at h
    refine m_iload_n dX7_count_15 3 rfl rfl ?_
    refine m_aload_n dX7_count_16 0 rfl rfl ?_
    refine m_get 49 3 (o_49 e _) rfl inlX7 (by decide) q5_15 rfl dX7_count_17 ?_
    refine m_iconst (v := 0) dX7_count_20 (by decide) ?_
    refine m_iald 51 (a_51 e _) h.1 dX7_count_21 ?_
    replace h := h.2
    refine m_icmp_ge (tgt := 58) dX7_count_22 (by decide) (fun z => ?_) (fun z => ?_)
    · replace h := h.1 z
      refine m_loc [0, 1, 2] rfl ?_
      exact hk v2 h
    · replace h := h.2 z
      refine m_iload_n dX7_count_25 1 rfl rfl ?_
      refine m_iconst (v := 4) dX7_count_26 (by decide) ?_
      refine m_icmp_ne (tgt := 58) dX7_count_27 (by decide) (fun z => ?_) (fun z => ?_)
      · replace h := h.1 z
        refine m_loc [0, 1, 2] rfl ?_
        exact hk v2 h
      · replace h := h.2 z
        refine m_iload_n dX7_count_30 2 rfl rfl ?_
        refine m_aload_n dX7_count_31 0 rfl rfl ?_
        refine m_get 49 5 (o_49 e _) rfl inlX7 (by decide) q5_17 rfl dX7_count_32 ?_
        refine m_bipush (v := 49) dX7_count_35 (by decide) ?_
        refine m_iload_n dX7_count_37 3 rfl rfl ?_
        refine m_iadd dX7_count_38 ?_
        refine m_iald 53 (a_53 e _) h.1 dX7_count_39 ?_
        replace h := h.2
        refine m_bipush (v := -9) dX7_count_40 (by decide) ?_
        refine m_icmp_ne (tgt := 49) dX7_count_42 (by decide) (fun z => ?_) (fun z => ?_)
        · replace h := h.1 z
          refine m_iconst (v := 1) dX7_count_49 (by decide) ?_
          refine m_iadd dX7_count_50 ?_
          refine m_topi (fun x6 ex6 => ?_)
          replace h := h x6 ex6
          refine m_istore_n (lv2 := [(2, .int x6), (0, .ref (e.2.2.1 49)), (1, .int f4), (3, .int v3)]) dX7_count_51 rfl (by decide) rfl ?_
          obtain ⟨x7, ex7⟩ : ∃ y : Int32, y = v3 + (1 : Int32) := ⟨_, rfl⟩
          replace h := h x7 ex7
          refine m_iinc (v := x7) (lv2 := [(3, .int x7), (2, .int x6), (0, .ref (e.2.2.1 49)), (1, .int f4)]) dX7_count_52 3 rfl ex7.symm (by decide) rfl ?_
          refine m_goto (tgt := 15) dX7_count_55 (by decide) ?_
          refine m_loc [2, 3, 1, 0] rfl ?_
          exact ih x6 x7 h
        · replace h := h.2 z
          refine m_iconst (v := 0) dX7_count_45 (by decide) ?_
          refine m_goto (tgt := 50) dX7_count_46 (by decide) ?_
          refine m_iadd dX7_count_50 ?_
          refine m_topi (fun x8 ex8 => ?_)
          replace h := h x8 ex8
          refine m_istore_n (lv2 := [(2, .int x8), (0, .ref (e.2.2.1 49)), (1, .int f4), (3, .int v3)]) dX7_count_51 rfl (by decide) rfl ?_
          obtain ⟨x9, ex9⟩ : ∃ y : Int32, y = v3 + (1 : Int32) := ⟨_, rfl⟩
          replace h := h x9 ex9
          refine m_iinc (v := x9) (lv2 := [(3, .int x9), (2, .int x8), (0, .ref (e.2.2.1 49)), (1, .int f4)]) dX7_count_52 3 rfl ex9.symm (by decide) rfl ?_
          refine m_goto (tgt := 15) dX7_count_55 (by decide) ?_
          refine m_loc [2, 3, 1, 0] rfl ?_
          exact ih x8 x9 h
set_option maxRecDepth 100000 in
set_option maxHeartbeats 4000000 in
theorem c_X7_count {e : GE} {S0 : St} {p1 : Int32} {Q : Int32 → Prop} (h : w_X7_count S0 p1 Q) : CT e yX7_count cX7_count 4 (some .int) 2 [.ref (e.2.2.1 49), .int p1] S0 (pR S0 Q) := by
  refine CT.of (by decide) (Nat.le_of_ble_eq_true rfl) (fun Z hR => ?_)
  rw [w_X7_count] at h
  show MW Z e cX7_count 4 RX7 2 0 [(0, .ref (e.2.2.1 49)), (1, .int p1)] [] S0
  refine m_iload_n dX7_count_0 1 rfl rfl ?_
  refine m_iconst (v := 0) dX7_count_1 (by decide) ?_
  refine m_iconst (v := 5) dX7_count_2 (by decide) ?_
  refine m_callS [.int p1, .int (0 : Int32), .int (5 : Int32)] (c_X7_in h) q6_8 q6_9 q1_5 q6_10 t_X7_in rfl (by omega) (by decide) (Nat.le_of_ble_eq_true rfl) rfl dX7_count_3 (kR (P := MW Z e cX7_count 4 RX7 2 6 [(0, .ref (e.2.2.1 49)), (1, .int p1)]) (fun r1 h => ?_))
  refine m_if_ne (tgt := 11) dX7_count_6 (by decide) (fun z => ?_) (fun z => ?_)
  · replace h := h.1 z
    refine m_iconst (v := 0) dX7_count_11 (by decide) ?_
    refine m_istore_n (lv2 := [(2, .int (0 : Int32)), (0, .ref (e.2.2.1 49)), (1, .int p1)]) dX7_count_12 rfl (by decide) rfl ?_
    refine m_iconst (v := 0) dX7_count_13 (by decide) ?_
    refine m_istore_n (lv2 := [(3, .int (0 : Int32)), (2, .int (0 : Int32)), (0, .ref (e.2.2.1 49)), (1, .int p1)]) dX7_count_14 rfl (by decide) rfl ?_
    obtain ⟨n, h⟩ := h
    refine m_loc [2, 3, 1, 0] rfl ?_
    refine l_X7_count_L15 (fun v11 h => ?_) n (0 : Int32) (0 : Int32) h
    refine m_iload_n dX7_count_58 1 rfl rfl ?_
    refine m_iconst (v := 3) dX7_count_59 (by decide) ?_
    refine m_icmp_ge (tgt := 72) dX7_count_60 (by decide) (fun z => ?_) (fun z => ?_)
    · replace h := h.1 z
      refine m_iload_n dX7_count_72 1 rfl rfl ?_
      refine m_iconst (v := 3) dX7_count_73 (by decide) ?_
      refine m_icmp_ne (tgt := 86) dX7_count_74 (by decide) (fun z => ?_) (fun z => ?_)
      · replace h := h.1 z
        refine m_iload_n dX7_count_86 1 rfl rfl ?_
        refine m_iconst (v := 4) dX7_count_87 (by decide) ?_
        refine m_icmp_ne (tgt := 95) dX7_count_88 (by decide) (fun z => ?_) (fun z => ?_)
        · replace h := h.1 z
          refine m_aload_n dX7_count_95 0 rfl rfl ?_
          refine m_get 49 2 (o_49 e _) rfl inlX7 (by decide) q6_21 rfl dX7_count_96 ?_
          exact m_iret hR ⟨_, rfl, rfl, h⟩ dX7_count_99
        · replace h := h.2 z
          refine m_iload_n dX7_count_91 2 rfl rfl ?_
          refine m_goto (tgt := 99) dX7_count_92 (by decide) ?_
          exact m_iret hR ⟨_, rfl, rfl, h⟩ dX7_count_99
      · replace h := h.2 z
        refine m_aload_n dX7_count_77 0 rfl rfl ?_
        refine m_get 49 5 (o_49 e _) rfl inlX7 (by decide) q5_17 rfl dX7_count_78 ?_
        refine m_iconst (v := 0) dX7_count_81 (by decide) ?_
        refine m_iald 53 (a_53 e _) h.1 dX7_count_82 ?_
        replace h := h.2
        refine m_goto (tgt := 99) dX7_count_83 (by decide) ?_
        exact m_iret hR ⟨_, rfl, rfl, h⟩ dX7_count_99
    · replace h := h.2 z
      refine m_aload_n dX7_count_63 0 rfl rfl ?_
      refine m_get 49 3 (o_49 e _) rfl inlX7 (by decide) q5_15 rfl dX7_count_64 ?_
      refine m_iload_n dX7_count_67 1 rfl rfl ?_
      refine m_iald 51 (a_51 e _) h.1 dX7_count_68 ?_
      replace h := h.2
      refine m_goto (tgt := 99) dX7_count_69 (by decide) ?_
      exact m_iret hR ⟨_, rfl, rfl, h⟩ dX7_count_99
  · replace h := h.2 z
    refine m_iconst (v := -1) dX7_count_9 (by decide) ?_
    exact m_iret hR ⟨_, rfl, rfl, h⟩ dX7_count_10
def w_X7_trace (S0 : St)  (Q : Int64 → Prop) : Prop :=
  Q (S0.2 1)
set_option maxRecDepth 100000 in
set_option maxHeartbeats 4000000 in
theorem c_X7_trace {e : GE} {S0 : St}  {Q : Int64 → Prop} (h : w_X7_trace S0  Q) : CT e yX7_trace cX7_trace 1 (some .long) 1 [.ref (e.2.2.1 49)] S0 (pL S0 Q) := by
  refine CT.of (by decide) (Nat.le_of_ble_eq_true rfl) (fun Z hR => ?_)
  rw [w_X7_trace] at h
  show MW Z e cX7_trace 1 RX7 1 0 [(0, .ref (e.2.2.1 49))] [] S0
  refine m_aload_n dX7_trace_0 0 rfl rfl ?_
  refine m_get 49 0 (o_49 e _) rfl inlX7 (by decide) q31_12 rfl dX7_trace_1 ?_
  exact m_lret hR ⟨_, rfl, rfl, h⟩ dX7_trace_4
