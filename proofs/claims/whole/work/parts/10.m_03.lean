def w_X7_rain (S0 : St) (p1 : Int32) (Q : Int32 → Prop) : Prop :=
  (w_X7_in p1 (0 : Int32) (9 : Int32)  (fun r1 => ((r1 = 0 → Q (-1 : Int32)) ∧ (¬ r1 = 0 → (vp_in ((13 : Int32) + p1) 47 ∧ Q (S0.1 51 ((13 : Int32) + p1).toNatClampNeg))))))
set_option maxRecDepth 100000 in
set_option maxHeartbeats 4000000 in
theorem c_X7_rain {e : GE} {S0 : St} {p1 : Int32} {Q : Int32 → Prop} (h : w_X7_rain S0 p1 Q) : CT e yX7_rain cX7_rain 2 (some .int) 2 [.ref (e.2.2.1 49), .int p1] S0 (pR S0 Q) := by
  refine CT.of (by decide) (Nat.le_of_ble_eq_true rfl) (fun Z hR => ?_)
  rw [w_X7_rain] at h
  show MW Z e cX7_rain 2 RX7 2 0 [(0, .ref (e.2.2.1 49)), (1, .int p1)] [] S0
  refine m_iload_n dX7_rain_0 1 rfl rfl ?_
  refine m_iconst (v := 0) dX7_rain_1 (by decide) ?_
  refine m_bipush (v := 9) dX7_rain_2 (by decide) ?_
  refine m_callS [.int p1, .int (0 : Int32), .int (9 : Int32)] (c_X7_in h) q6_8 q6_9 q1_5 q6_10 t_X7_in rfl (by omega) (by decide) (Nat.le_of_ble_eq_true rfl) rfl dX7_rain_4 (kR (P := MW Z e cX7_rain 2 RX7 2 7 [(0, .ref (e.2.2.1 49)), (1, .int p1)]) (fun r1 h => ?_))
  refine m_if_eq (tgt := 22) dX7_rain_7 (by decide) (fun z => ?_) (fun z => ?_)
  · replace h := h.1 z
    refine m_iconst (v := -1) dX7_rain_22 (by decide) ?_
    exact m_iret hR ⟨_, rfl, rfl, h⟩ dX7_rain_23
  · replace h := h.2 z
    refine m_aload_n dX7_rain_10 0 rfl rfl ?_
    refine m_get 49 3 (o_49 e _) rfl inlX7 (by decide) q5_15 rfl dX7_rain_11 ?_
    refine m_bipush (v := 13) dX7_rain_14 (by decide) ?_
    refine m_iload_n dX7_rain_16 1 rfl rfl ?_
    refine m_iadd dX7_rain_17 ?_
    refine m_iald 51 (a_51 e _) h.1 dX7_rain_18 ?_
    replace h := h.2
    refine m_goto (tgt := 23) dX7_rain_19 (by decide) ?_
    exact m_iret hR ⟨_, rfl, rfl, h⟩ dX7_rain_23
def X7_paintOf_L5 (S5 : St) (f3 : Int32) (f4 : Int32) (kx : Int32 → Prop) : Nat → Int32 → Int32 → Prop
  | 0 => fun _ _ => False
  | n + 1 => (fun (rec : Int32 → Int32 → Prop) => fun (v1 : Int32) (v2 : Int32) => (vp_in (2 : Int32) 47 ∧ (((S5.1 51 (2 : Int32).toNatClampNeg) ≤ v2 → kx v1) ∧ (¬ (S5.1 51 (2 : Int32).toNatClampNeg) ≤ v2 → (vp_in ((23 : Int32) + v2) 47 ∧ (∀ J6 : Int32 → Prop, J6 = (fun (x7 : Int32) => ((¬ x7 = 0 → ((¬ v1 = 0 → ∀ x8 : Int32, x8 = v2 + (1 : Int32) → rec v1 x8) ∧ (v1 = 0 → ((x7 ≤ 0 → ∀ x9 : Int32, x9 = v2 + (1 : Int32) → rec v1 x9) ∧ (¬ x7 ≤ 0 → (vp_in ((39 : Int32) + v2) 47 ∧ (((S5.1 51 ((39 : Int32) + v2).toNatClampNeg) ≤ x7 → ∀ x10 : Int32, x10 = v2 + (1 : Int32) → rec v1 x10) ∧ (¬ (S5.1 51 ((39 : Int32) + v2).toNatClampNeg) ≤ x7 → ∀ x11 : Int32, x11 = v2 + (1 : Int32) → rec (1 : Int32) x11)))))))) ∧ (x7 = 0 → ∀ x12 : Int32, x12 = v2 + (1 : Int32) → rec (2 : Int32) x12))) → ((¬ (S5.1 51 ((23 : Int32) + v2).toNatClampNeg) = f3 → J6 (-1 : Int32)) ∧ ((S5.1 51 ((23 : Int32) + v2).toNatClampNeg) = f3 → (vp_in ((31 : Int32) + v2) 47 ∧ J6 (f4 - (S5.1 51 ((31 : Int32) + v2).toNatClampNeg))))))))))) (X7_paintOf_L5 S5 f3 f4 kx n)
def w_X7_paintOf (S0 : St) (p1 : Int32) (p2 : Int32) (Q : Int32 → Prop) : Prop :=
  (∃ n : Nat, X7_paintOf_L5 S0 p1 p2 (fun (v14 : Int32) => Q v14) n (0 : Int32) (0 : Int32))
set_option maxRecDepth 100000 in
set_option maxHeartbeats 4000000 in
theorem l_X7_paintOf_L5 {Z : Zt} {e : GE} {S5 : St} {f3 : Int32} {f4 : Int32} {kx : Int32 → Prop} (hk : ∀ (v13 : Int32), kx v13 → MW Z e cX7_paintOf 6 RX7 1 93 [(3, .int v13)] [] S5) : ∀ (n : Nat) (v1 : Int32) (v2 : Int32), X7_paintOf_L5 S5 f3 f4 kx n v1 v2 → MW Z e cX7_paintOf 6 RX7 1 5 [(0, .ref (e.2.2.1 49)), (1, .int f3), (2, .int f4), (3, .int v1), (4, .int v2)] [] S5 := by
  intro n
  induction n with
  | zero =>
    intro v1 v2 h
    exact h.elim
  | succ n ih =>
    intro v1 v2 h
    rw [X7_paintOf_L5] at h
    refine m_iload dX7_paintOf_5 4 rfl ?_
    refine m_aload_n dX7_paintOf_7 0 rfl rfl ?_
    refine m_get 49 3 (o_49 e _) rfl inlX7 (by decide) q5_15 rfl dX7_paintOf_8 ?_
    refine m_iconst (v := 2) dX7_paintOf_11 (by decide) ?_
    refine m_iald 51 (a_51 e _) h.1 dX7_paintOf_12 ?_
    replace h := h.2
    refine m_icmp_ge (tgt := 93) dX7_paintOf_13 (by decide) (fun z => ?_) (fun z => ?_)
    · replace h := h.1 z
      refine m_loc [3] rfl ?_
      exact hk v1 h
    · replace h := h.2 z
      refine m_aload_n dX7_paintOf_16 0 rfl rfl ?_
      refine m_get 49 3 (o_49 e _) rfl inlX7 (by decide) q5_15 rfl dX7_paintOf_17 ?_
      refine m_bipush (v := 23) dX7_paintOf_20 (by decide) ?_
      refine m_iload dX7_paintOf_22 4 rfl ?_
      refine m_iadd dX7_paintOf_24 ?_
      refine m_iald 51 (a_51 e _) h.1 dX7_paintOf_25 ?_
      replace h := h.2
      refine m_iload_n dX7_paintOf_26 1 rfl rfl ?_
      obtain ⟨J6, eJ6, h⟩ := jn h
      have kJ6 : ∀ (x7 : Int32), J6 x7 → MW Z e cX7_paintOf 6 RX7 1 46 [(0, .ref (e.2.2.1 49)), (1, .int f3), (2, .int f4), (3, .int v1), (4, .int v2)] [.int x7] S5 := by
        intro x7 h
        rw [eJ6] at h
        refine m_istore (lv2 := [(5, .int x7), (0, .ref (e.2.2.1 49)), (1, .int f3), (2, .int f4), (3, .int v1), (4, .int v2)]) dX7_paintOf_46 (by decide) rfl ?_
        refine m_iload dX7_paintOf_48 0 rfl ?_
        refine m_if_ne (tgt := 57) dX7_paintOf_50 (by decide) (fun z => ?_) (fun z => ?_)
        · replace h := h.1 z
          refine m_iload_n dX7_paintOf_57 4 rfl rfl ?_
          refine m_if_ne (tgt := 85) dX7_paintOf_58 (by decide) (fun z => ?_) (fun z => ?_)
          · replace h := h.1 z
            refine m_iload_n dX7_paintOf_85 4 rfl rfl ?_
            refine m_istore_n (lv2 := [(3, .int v1), (5, .int x7), (0, .ref (e.2.2.1 49)), (1, .int f3), (2, .int f4), (4, .int v2)]) dX7_paintOf_86 rfl (by decide) rfl ?_
            obtain ⟨x8, ex8⟩ : ∃ y : Int32, y = v2 + (1 : Int32) := ⟨_, rfl⟩
            replace h := h x8 ex8
            refine m_iinc (v := x8) (lv2 := [(4, .int x8), (3, .int v1), (5, .int x7), (0, .ref (e.2.2.1 49)), (1, .int f3), (2, .int f4)]) dX7_paintOf_87 5 rfl ex8.symm (by decide) rfl ?_
            refine m_goto (tgt := 5) dX7_paintOf_90 (by decide) ?_
            refine m_loc [3, 4, 5, 1, 0] rfl ?_
            exact ih v1 x8 h
          · replace h := h.2 z
            refine m_iload dX7_paintOf_61 0 rfl ?_
            refine m_if_le (tgt := 85) dX7_paintOf_63 (by decide) (fun z => ?_) (fun z => ?_)
            · replace h := h.1 z
              refine m_iload_n dX7_paintOf_85 4 rfl rfl ?_
              refine m_istore_n (lv2 := [(3, .int v1), (5, .int x7), (0, .ref (e.2.2.1 49)), (1, .int f3), (2, .int f4), (4, .int v2)]) dX7_paintOf_86 rfl (by decide) rfl ?_
              obtain ⟨x9, ex9⟩ : ∃ y : Int32, y = v2 + (1 : Int32) := ⟨_, rfl⟩
              replace h := h x9 ex9
              refine m_iinc (v := x9) (lv2 := [(4, .int x9), (3, .int v1), (5, .int x7), (0, .ref (e.2.2.1 49)), (1, .int f3), (2, .int f4)]) dX7_paintOf_87 5 rfl ex9.symm (by decide) rfl ?_
              refine m_goto (tgt := 5) dX7_paintOf_90 (by decide) ?_
              refine m_loc [3, 4, 5, 1, 0] rfl ?_
              exact ih v1 x9 h
            · replace h := h.2 z
              refine m_iload dX7_paintOf_66 0 rfl ?_
              refine m_aload_n dX7_paintOf_68 1 rfl rfl ?_
              refine m_get 49 3 (o_49 e _) rfl inlX7 (by decide) q5_15 rfl dX7_paintOf_69 ?_
              refine m_bipush (v := 39) dX7_paintOf_72 (by decide) ?_
              refine m_iload dX7_paintOf_74 5 rfl ?_
              refine m_iadd dX7_paintOf_76 ?_
              refine m_iald 51 (a_51 e _) h.1 dX7_paintOf_77 ?_
              replace h := h.2
              refine m_icmp_ge (tgt := 85) dX7_paintOf_78 (by decide) (fun z => ?_) (fun z => ?_)
              · replace h := h.1 z
                refine m_iload_n dX7_paintOf_85 4 rfl rfl ?_
                refine m_istore_n (lv2 := [(3, .int v1), (5, .int x7), (0, .ref (e.2.2.1 49)), (1, .int f3), (2, .int f4), (4, .int v2)]) dX7_paintOf_86 rfl (by decide) rfl ?_
                obtain ⟨x10, ex10⟩ : ∃ y : Int32, y = v2 + (1 : Int32) := ⟨_, rfl⟩
                replace h := h x10 ex10
                refine m_iinc (v := x10) (lv2 := [(4, .int x10), (3, .int v1), (5, .int x7), (0, .ref (e.2.2.1 49)), (1, .int f3), (2, .int f4)]) dX7_paintOf_87 5 rfl ex10.symm (by decide) rfl ?_
                refine m_goto (tgt := 5) dX7_paintOf_90 (by decide) ?_
                refine m_loc [3, 4, 5, 1, 0] rfl ?_
                exact ih v1 x10 h
              · replace h := h.2 z
                refine m_iconst (v := 1) dX7_paintOf_81 (by decide) ?_
                refine m_goto (tgt := 86) dX7_paintOf_82 (by decide) ?_
                refine m_istore_n (lv2 := [(3, .int (1 : Int32)), (5, .int x7), (0, .ref (e.2.2.1 49)), (1, .int f3), (2, .int f4), (4, .int v2)]) dX7_paintOf_86 rfl (by decide) rfl ?_
                obtain ⟨x11, ex11⟩ : ∃ y : Int32, y = v2 + (1 : Int32) := ⟨_, rfl⟩
                replace h := h x11 ex11
                refine m_iinc (v := x11) (lv2 := [(4, .int x11), (3, .int (1 : Int32)), (5, .int x7), (0, .ref (e.2.2.1 49)), (1, .int f3), (2, .int f4)]) dX7_paintOf_87 5 rfl ex11.symm (by decide) rfl ?_
                refine m_goto (tgt := 5) dX7_paintOf_90 (by decide) ?_
                refine m_loc [3, 4, 5, 1, 0] rfl ?_
                exact ih (1 : Int32) x11 h
        · replace h := h.2 z
          refine m_iconst (v := 2) dX7_paintOf_53 (by decide) ?_
          refine m_goto (tgt := 86) dX7_paintOf_54 (by decide) ?_
          refine m_istore_n (lv2 := [(3, .int (2 : Int32)), (5, .int x7), (0, .ref (e.2.2.1 49)), (1, .int f3), (2, .int f4), (4, .int v2)]) dX7_paintOf_86 rfl (by decide) rfl ?_
          obtain ⟨x12, ex12⟩ : ∃ y : Int32, y = v2 + (1 : Int32) := ⟨_, rfl⟩
          replace h := h x12 ex12
          refine m_iinc (v := x12) (lv2 := [(4, .int x12), (3, .int (2 : Int32)), (5, .int x7), (0, .ref (e.2.2.1 49)), (1, .int f3), (2, .int f4)]) dX7_paintOf_87 5 rfl ex12.symm (by decide) rfl ?_
          refine m_goto (tgt := 5) dX7_paintOf_90 (by decide) ?_
          refine m_loc [3, 4, 5, 1, 0] rfl ?_
          exact ih (2 : Int32) x12 h
      refine m_icmp_ne (tgt := 45) dX7_paintOf_27 (by decide) (fun z => ?_) (fun z => ?_)
      · replace h := h.1 z
        refine m_iconst (v := -1) dX7_paintOf_45 (by decide) ?_
        exact kJ6 (-1 : Int32) h
      · replace h := h.2 z
        refine m_iload_n dX7_paintOf_30 2 rfl rfl ?_
        refine m_aload_n dX7_paintOf_31 0 rfl rfl ?_
        refine m_get 49 3 (o_49 e _) rfl inlX7 (by decide) q5_15 rfl dX7_paintOf_32 ?_
        refine m_bipush (v := 31) dX7_paintOf_35 (by decide) ?_
        refine m_iload dX7_paintOf_37 4 rfl ?_
        refine m_iadd dX7_paintOf_39 ?_
        refine m_iald 51 (a_51 e _) h.1 dX7_paintOf_40 ?_
        replace h := h.2
        refine m_isub dX7_paintOf_41 ?_
        refine m_goto (tgt := 46) dX7_paintOf_42 (by decide) ?_
        exact kJ6 (f4 - (S5.1 51 ((31 : Int32) + v2).toNatClampNeg)) h
set_option maxRecDepth 100000 in
set_option maxHeartbeats 4000000 in
theorem c_X7_paintOf {e : GE} {S0 : St} {p1 : Int32} {p2 : Int32} {Q : Int32 → Prop} (h : w_X7_paintOf S0 p1 p2 Q) : CT e yX7_paintOf cX7_paintOf 6 (some .int) 1 [.ref (e.2.2.1 49), .int p1, .int p2] S0 (pR S0 Q) := by
  refine CT.of (by decide) (Nat.le_of_ble_eq_true rfl) (fun Z hR => ?_)
  rw [w_X7_paintOf] at h
  show MW Z e cX7_paintOf 6 RX7 1 0 [(0, .ref (e.2.2.1 49)), (1, .int p1), (2, .int p2)] [] S0
  refine m_iconst (v := 0) dX7_paintOf_0 (by decide) ?_
  refine m_istore_n (lv2 := [(3, .int (0 : Int32)), (0, .ref (e.2.2.1 49)), (1, .int p1), (2, .int p2)]) dX7_paintOf_1 rfl (by decide) rfl ?_
  refine m_iconst (v := 0) dX7_paintOf_2 (by decide) ?_
  refine m_istore (lv2 := [(4, .int (0 : Int32)), (3, .int (0 : Int32)), (0, .ref (e.2.2.1 49)), (1, .int p1), (2, .int p2)]) dX7_paintOf_3 (by decide) rfl ?_
  obtain ⟨n, h⟩ := h
  refine m_loc [2, 3, 4, 1, 0] rfl ?_
  refine l_X7_paintOf_L5 (fun v14 h => ?_) n (0 : Int32) (0 : Int32) h
  refine m_iload_n dX7_paintOf_93 0 rfl rfl ?_
  exact m_iret hR ⟨_, rfl, rfl, h⟩ dX7_paintOf_94
def w_X7_paint (S0 : St) (p1 : Int32) (p2 : Int32) (Q : Int32 → Prop) : Prop :=
  (w_X7_isBar S0 p1  (fun r1 => ((r1 = 0 → Q (-1 : Int32)) ∧ (¬ r1 = 0 → (w_X7_in p2 (0 : Int32) (9 : Int32)  (fun r2 => ((r2 = 0 → Q (-1 : Int32)) ∧ (¬ r2 = 0 → (w_X7_paintOf S0 p1 p2  (fun r3 => Q r3))))))))))
set_option maxRecDepth 100000 in
set_option maxHeartbeats 4000000 in
theorem c_X7_paint {e : GE} {S0 : St} {p1 : Int32} {p2 : Int32} {Q : Int32 → Prop} (h : w_X7_paint S0 p1 p2 Q) : CT e yX7_paint cX7_paint 3 (some .int) 3 [.ref (e.2.2.1 49), .int p1, .int p2] S0 (pR S0 Q) := by
  refine CT.of (by decide) (Nat.le_of_ble_eq_true rfl) (fun Z hR => ?_)
  rw [w_X7_paint] at h
  show MW Z e cX7_paint 3 RX7 3 0 [(0, .ref (e.2.2.1 49)), (1, .int p1), (2, .int p2)] [] S0
  refine m_aload_n dX7_paint_0 0 rfl rfl ?_
  refine m_iload_n dX7_paint_1 1 rfl rfl ?_
  refine m_callV 49 [.int p1] (c_X7_isBar h) (o_49 e _) rfl rfl q16_4 q16_5 q16_6 q1_5 q16_7 t_X7_isBar rfl (by omega) (by decide) (Nat.le_of_ble_eq_true rfl) rfl dX7_paint_2 (kR (P := MW Z e cX7_paint 3 RX7 3 5 [(0, .ref (e.2.2.1 49)), (1, .int p1), (2, .int p2)]) (fun r1 h => ?_))
  refine m_if_eq (tgt := 27) dX7_paint_5 (by decide) (fun z => ?_) (fun z => ?_)
  · replace h := h.1 z
    refine m_iconst (v := -1) dX7_paint_27 (by decide) ?_
    exact m_iret hR ⟨_, rfl, rfl, h⟩ dX7_paint_28
  · replace h := h.2 z
    refine m_iload_n dX7_paint_8 2 rfl rfl ?_
    refine m_iconst (v := 0) dX7_paint_9 (by decide) ?_
    refine m_bipush (v := 9) dX7_paint_10 (by decide) ?_
    refine m_callS [.int p2, .int (0 : Int32), .int (9 : Int32)] (c_X7_in h) q6_8 q6_9 q1_5 q6_10 t_X7_in rfl (by omega) (by decide) (Nat.le_of_ble_eq_true rfl) rfl dX7_paint_12 (kR (P := MW Z e cX7_paint 3 RX7 3 15 [(0, .ref (e.2.2.1 49)), (1, .int p1), (2, .int p2)]) (fun r2 h => ?_))
    refine m_if_eq (tgt := 27) dX7_paint_15 (by decide) (fun z => ?_) (fun z => ?_)
    · replace h := h.1 z
      refine m_iconst (v := -1) dX7_paint_27 (by decide) ?_
      exact m_iret hR ⟨_, rfl, rfl, h⟩ dX7_paint_28
    · replace h := h.2 z
      refine m_aload_n dX7_paint_18 0 rfl rfl ?_
      refine m_iload_n dX7_paint_19 1 rfl rfl ?_
      refine m_iload_n dX7_paint_20 2 rfl rfl ?_
      refine m_callV 49 [.int p1, .int p2] (c_X7_paintOf h) (o_49 e _) rfl rfl q18_5 q18_6 q18_7 q1_5 q18_8 t_X7_paintOf rfl (by omega) (by decide) (Nat.le_of_ble_eq_true rfl) rfl dX7_paint_21 (kR (P := MW Z e cX7_paint 3 RX7 3 24 [(0, .ref (e.2.2.1 49)), (1, .int p1), (2, .int p2)]) (fun r3 h => ?_))
      refine m_goto (tgt := 28) dX7_paint_24 (by decide) ?_
      exact m_iret hR ⟨_, rfl, rfl, h⟩ dX7_paint_28
def w_X7_holds (S0 : St) (p1 : Int32) (p2 : Int32) (p3 : Int32) (p4 : Int32) (Q : Int32 → St → Prop) : Prop :=
  (w_X7_isPerson S0 p1  (fun r1 => ((r1 = 0 → Q (-1 : Int32) S0) ∧ (¬ r1 = 0 → (w_X7_isBar S0 p2  (fun r2 => ((r2 = 0 → Q (-1 : Int32) S0) ∧ (¬ r2 = 0 → (w_X7_in p3 (0 : Int32) (9 : Int32)  (fun r3 => ((r3 = 0 → Q (-1 : Int32) S0) ∧ (¬ r3 = 0 → (w_X7_in p4 (1 : Int32) ((10 : Int32) - p3)  (fun r4 => ((¬ r4 = 0 → (vp_in (0 : Int32) 55 ∧ ((¬ (S0.1 53 (0 : Int32).toNatClampNeg) = (12 : Int32) → (vp_in (0 : Int32) 55 ∧ ∀ x5 : Int32, x5 = S0.1 53 (0 : Int32).toNatClampNeg → (vp_in ((1 : Int32) + x5) 55 ∧ ∀ S6 : St, S6 = setA S0 53 (upd (S0.1 53) ((1 : Int32) + x5).toNatClampNeg p1) → (vp_in ((13 : Int32) + x5) 55 ∧ ∀ S7 : St, S7 = setA S6 53 (upd (S6.1 53) ((13 : Int32) + x5).toNatClampNeg p2) → (vp_in ((25 : Int32) + x5) 55 ∧ ∀ S8 : St, S8 = setA S7 53 (upd (S7.1 53) ((25 : Int32) + x5).toNatClampNeg p3) → (vp_in ((37 : Int32) + x5) 55 ∧ ∀ S9 : St, S9 = setA S8 53 (upd (S8.1 53) ((37 : Int32) + x5).toNatClampNeg p4) → (vp_in (0 : Int32) 55 ∧ (vp_in (0 : Int32) 55 ∧ ∀ S10 : St, S10 = setA S9 53 (upd (S9.1 53) (0 : Int32).toNatClampNeg ((S9.1 53 (0 : Int32).toNatClampNeg) + (1 : Int32))) → (vp_in (0 : Int32) 55 ∧ Q (S10.1 53 (0 : Int32).toNatClampNeg) S10))))))))) ∧ ((S0.1 53 (0 : Int32).toNatClampNeg) = (12 : Int32) → Q (-3 : Int32) S0)))) ∧ (r4 = 0 → Q (-1 : Int32) S0))))))))))))))))
set_option maxRecDepth 100000 in
set_option maxHeartbeats 4000000 in
theorem c_X7_holds {e : GE} {S0 : St} {p1 : Int32} {p2 : Int32} {p3 : Int32} {p4 : Int32} {Q : Int32 → St → Prop} (h : w_X7_holds S0 p1 p2 p3 p4 Q) : CT e yX7_holds cX7_holds 6 (some .int) 3 [.ref (e.2.2.1 49), .int p1, .int p2, .int p3, .int p4] S0 (pI Q) := by
  refine CT.of (by decide) (Nat.le_of_ble_eq_true rfl) (fun Z hR => ?_)
  rw [w_X7_holds] at h
  show MW Z e cX7_holds 6 RX7 3 0 [(0, .ref (e.2.2.1 49)), (1, .int p1), (2, .int p2), (3, .int p3), (4, .int p4)] [] S0
  refine m_aload_n dX7_holds_0 0 rfl rfl ?_
  refine m_iload_n dX7_holds_1 1 rfl rfl ?_
  refine m_callV 49 [.int p1] (c_X7_isPerson h) (o_49 e _) rfl rfl q16_21 q16_22 q16_23 q1_5 q17_0 t_X7_isPerson rfl (by omega) (by decide) (Nat.le_of_ble_eq_true rfl) rfl dX7_holds_2 (kR (P := MW Z e cX7_holds 6 RX7 3 5 [(0, .ref (e.2.2.1 49)), (1, .int p1), (2, .int p2), (3, .int p3), (4, .int p4)]) (fun r1 h => ?_))
  refine m_if_eq (tgt := 39) dX7_holds_5 (by decide) (fun z => ?_) (fun z => ?_)
  · replace h := h.1 z
    refine m_iconst (v := -1) dX7_holds_39 (by decide) ?_
    exact m_iret hR ⟨_, rfl, h⟩ dX7_holds_40
  · replace h := h.2 z
    refine m_aload_n dX7_holds_8 0 rfl rfl ?_
    refine m_iload_n dX7_holds_9 2 rfl rfl ?_
    refine m_callV 49 [.int p2] (c_X7_isBar h) (o_49 e _) rfl rfl q16_4 q16_5 q16_6 q1_5 q16_7 t_X7_isBar rfl (by omega) (by decide) (Nat.le_of_ble_eq_true rfl) rfl dX7_holds_10 (kR (P := MW Z e cX7_holds 6 RX7 3 13 [(0, .ref (e.2.2.1 49)), (1, .int p1), (2, .int p2), (3, .int p3), (4, .int p4)]) (fun r2 h => ?_))
    refine m_if_eq (tgt := 39) dX7_holds_13 (by decide) (fun z => ?_) (fun z => ?_)
    · replace h := h.1 z
      refine m_iconst (v := -1) dX7_holds_39 (by decide) ?_
      exact m_iret hR ⟨_, rfl, h⟩ dX7_holds_40
    · replace h := h.2 z
      refine m_iload_n dX7_holds_16 3 rfl rfl ?_
      refine m_iconst (v := 0) dX7_holds_17 (by decide) ?_
      refine m_bipush (v := 9) dX7_holds_18 (by decide) ?_
      refine m_callS [.int p3, .int (0 : Int32), .int (9 : Int32)] (c_X7_in h) q6_8 q6_9 q1_5 q6_10 t_X7_in rfl (by omega) (by decide) (Nat.le_of_ble_eq_true rfl) rfl dX7_holds_20 (kR (P := MW Z e cX7_holds 6 RX7 3 23 [(0, .ref (e.2.2.1 49)), (1, .int p1), (2, .int p2), (3, .int p3), (4, .int p4)]) (fun r3 h => ?_))
      refine m_if_eq (tgt := 39) dX7_holds_23 (by decide) (fun z => ?_) (fun z => ?_)
      · replace h := h.1 z
        refine m_iconst (v := -1) dX7_holds_39 (by decide) ?_
        exact m_iret hR ⟨_, rfl, h⟩ dX7_holds_40
      · replace h := h.2 z
        refine m_iload dX7_holds_26 4 rfl ?_
        refine m_iconst (v := 1) dX7_holds_28 (by decide) ?_
        refine m_bipush (v := 10) dX7_holds_29 (by decide) ?_
        refine m_iload_n dX7_holds_31 3 rfl rfl ?_
        refine m_isub dX7_holds_32 ?_
        refine m_callS [.int p4, .int (1 : Int32), .int ((10 : Int32) - p3)] (c_X7_in h) q6_8 q6_9 q1_5 q6_10 t_X7_in rfl (by omega) (by decide) (Nat.le_of_ble_eq_true rfl) rfl dX7_holds_33 (kR (P := MW Z e cX7_holds 6 RX7 3 36 [(0, .ref (e.2.2.1 49)), (1, .int p1), (2, .int p2), (3, .int p3), (4, .int p4)]) (fun r4 h => ?_))
        refine m_if_ne (tgt := 41) dX7_holds_36 (by decide) (fun z => ?_) (fun z => ?_)
        · replace h := h.1 z
          refine m_aload_n dX7_holds_41 0 rfl rfl ?_
          refine m_get 49 5 (o_49 e _) rfl inlX7 (by decide) q5_17 rfl dX7_holds_42 ?_
          refine m_iconst (v := 0) dX7_holds_45 (by decide) ?_
          refine m_iald 53 (a_53 e _) h.1 dX7_holds_46 ?_
          replace h := h.2
          refine m_bipush (v := 12) dX7_holds_47 (by decide) ?_
          refine m_icmp_ne (tgt := 55) dX7_holds_49 (by decide) (fun z => ?_) (fun z => ?_)
          · replace h := h.1 z
            refine m_aload_n dX7_holds_55 0 rfl rfl ?_
            refine m_get 49 5 (o_49 e _) rfl inlX7 (by decide) q5_17 rfl dX7_holds_56 ?_
            refine m_iconst (v := 0) dX7_holds_59 (by decide) ?_
            refine m_iald 53 (a_53 e _) h.1 dX7_holds_60 ?_
            replace h := h.2
            refine m_topi (fun x5 ex5 => ?_)
            replace h := h x5 ex5
            refine m_istore (lv2 := [(5, .int x5), (0, .ref (e.2.2.1 49)), (1, .int p1), (2, .int p2), (3, .int p3), (4, .int p4)]) dX7_holds_61 (by decide) rfl ?_
            refine m_aload_n dX7_holds_63 1 rfl rfl ?_
            refine m_get 49 5 (o_49 e _) rfl inlX7 (by decide) q5_17 rfl dX7_holds_64 ?_
            refine m_iconst (v := 1) dX7_holds_67 (by decide) ?_
            refine m_iload dX7_holds_68 0 rfl ?_
            refine m_iadd dX7_holds_70 ?_
            refine m_iload_n dX7_holds_71 2 rfl rfl ?_
            refine m_iast 53 (a_53 e _) (aw_53 e _) h.1 dX7_holds_72 (fun S6 eS6 => ?_)
            replace h := h.2 S6 eS6
            refine m_aload_n dX7_holds_73 1 rfl rfl ?_
            refine m_get 49 5 (o_49 e _) rfl inlX7 (by decide) q5_17 rfl dX7_holds_74 ?_
            refine m_bipush (v := 13) dX7_holds_77 (by decide) ?_
            refine m_iload dX7_holds_79 0 rfl ?_
            refine m_iadd dX7_holds_81 ?_
            refine m_iload_n dX7_holds_82 3 rfl rfl ?_
            refine m_iast 53 (a_53 e _) (aw_53 e _) h.1 dX7_holds_83 (fun S7 eS7 => ?_)
            replace h := h.2 S7 eS7
            refine m_aload_n dX7_holds_84 1 rfl rfl ?_
            refine m_get 49 5 (o_49 e _) rfl inlX7 (by decide) q5_17 rfl dX7_holds_85 ?_
            refine m_bipush (v := 25) dX7_holds_88 (by decide) ?_
            refine m_iload dX7_holds_90 0 rfl ?_
            refine m_iadd dX7_holds_92 ?_
            refine m_iload_n dX7_holds_93 4 rfl rfl ?_
            refine m_iast 53 (a_53 e _) (aw_53 e _) h.1 dX7_holds_94 (fun S8 eS8 => ?_)
            replace h := h.2 S8 eS8
            refine m_aload_n dX7_holds_95 1 rfl rfl ?_
            refine m_get 49 5 (o_49 e _) rfl inlX7 (by decide) q5_17 rfl dX7_holds_96 ?_
            refine m_bipush (v := 37) dX7_holds_99 (by decide) ?_
            refine m_iload dX7_holds_101 0 rfl ?_
            refine m_iadd dX7_holds_103 ?_
            refine m_iload dX7_holds_104 5 rfl ?_
            refine m_iast 53 (a_53 e _) (aw_53 e _) h.1 dX7_holds_106 (fun S9 eS9 => ?_)
            replace h := h.2 S9 eS9
            refine m_aload_n dX7_holds_107 1 rfl rfl ?_
            refine m_get 49 5 (o_49 e _) rfl inlX7 (by decide) q5_17 rfl dX7_holds_108 ?_
            refine m_iconst (v := 0) dX7_holds_111 (by decide) ?_
            refine m_dup2 dX7_holds_112 rfl rfl ?_
            refine m_iald 53 (a_53 e _) h.1 dX7_holds_113 ?_
            replace h := h.2
            refine m_iconst (v := 1) dX7_holds_114 (by decide) ?_
            refine m_iadd dX7_holds_115 ?_
            refine m_iast 53 (a_53 e _) (aw_53 e _) h.1 dX7_holds_116 (fun S10 eS10 => ?_)
            replace h := h.2 S10 eS10
            refine m_aload_n dX7_holds_117 1 rfl rfl ?_
            refine m_get 49 5 (o_49 e _) rfl inlX7 (by decide) q5_17 rfl dX7_holds_118 ?_
            refine m_iconst (v := 0) dX7_holds_121 (by decide) ?_
            refine m_iald 53 (a_53 e _) h.1 dX7_holds_122 ?_
            replace h := h.2
            exact m_iret hR ⟨_, rfl, h⟩ dX7_holds_123
          · replace h := h.2 z
            refine m_bipush (v := -3) dX7_holds_52 (by decide) ?_
            exact m_iret hR ⟨_, rfl, h⟩ dX7_holds_54
        · replace h := h.2 z
          refine m_iconst (v := -1) dX7_holds_39 (by decide) ?_
          exact m_iret hR ⟨_, rfl, h⟩ dX7_holds_40
def w_X7_undo (S0 : St)  (Q : Int32 → St → Prop) : Prop :=
  (vp_in (0 : Int32) 55 ∧ ((¬ (S0.1 53 (0 : Int32).toNatClampNeg) = 0 → (vp_in (0 : Int32) 55 ∧ (vp_in (0 : Int32) 55 ∧ ∀ S1 : St, S1 = setA S0 53 (upd (S0.1 53) (0 : Int32).toNatClampNeg ((S0.1 53 (0 : Int32).toNatClampNeg) - (1 : Int32))) → (vp_in (0 : Int32) 55 ∧ Q (S1.1 53 (0 : Int32).toNatClampNeg) S1)))) ∧ ((S0.1 53 (0 : Int32).toNatClampNeg) = 0 → Q (-2 : Int32) S0)))
set_option maxRecDepth 100000 in
set_option maxHeartbeats 4000000 in
theorem c_X7_undo {e : GE} {S0 : St}  {Q : Int32 → St → Prop} (h : w_X7_undo S0  Q) : CT e yX7_undo cX7_undo 1 (some .int) 1 [.ref (e.2.2.1 49)] S0 (pI Q) := by
  refine CT.of (by decide) (Nat.le_of_ble_eq_true rfl) (fun Z hR => ?_)
  rw [w_X7_undo] at h
  show MW Z e cX7_undo 1 RX7 1 0 [(0, .ref (e.2.2.1 49))] [] S0
  refine m_aload_n dX7_undo_0 0 rfl rfl ?_
  refine m_get 49 5 (o_49 e _) rfl inlX7 (by decide) q5_17 rfl dX7_undo_1 ?_
  refine m_iconst (v := 0) dX7_undo_4 (by decide) ?_
  refine m_iald 53 (a_53 e _) h.1 dX7_undo_5 ?_
  replace h := h.2
  refine m_if_ne (tgt := 12) dX7_undo_6 (by decide) (fun z => ?_) (fun z => ?_)
  · replace h := h.1 z
    refine m_aload_n dX7_undo_12 0 rfl rfl ?_
    refine m_get 49 5 (o_49 e _) rfl inlX7 (by decide) q5_17 rfl dX7_undo_13 ?_
    refine m_iconst (v := 0) dX7_undo_16 (by decide) ?_
    refine m_dup2 dX7_undo_17 rfl rfl ?_
    refine m_iald 53 (a_53 e _) h.1 dX7_undo_18 ?_
    replace h := h.2
    refine m_iconst (v := 1) dX7_undo_19 (by decide) ?_
    refine m_isub dX7_undo_20 ?_
    refine m_iast 53 (a_53 e _) (aw_53 e _) h.1 dX7_undo_21 (fun S1 eS1 => ?_)
    replace h := h.2 S1 eS1
    refine m_aload_n dX7_undo_22 0 rfl rfl ?_
    refine m_get 49 5 (o_49 e _) rfl inlX7 (by decide) q5_17 rfl dX7_undo_23 ?_
    refine m_iconst (v := 0) dX7_undo_26 (by decide) ?_
    refine m_iald 53 (a_53 e _) h.1 dX7_undo_27 ?_
    replace h := h.2
    exact m_iret hR ⟨_, rfl, h⟩ dX7_undo_28
  · replace h := h.2 z
    refine m_bipush (v := -2) dX7_undo_9 (by decide) ?_
    exact m_iret hR ⟨_, rfl, h⟩ dX7_undo_11
def w_X7_held (S0 : St) (p1 : Int32) (p2 : Int32) (Q : Int32 → Prop) : Prop :=
  (vp_in (0 : Int32) 55 ∧ (w_X7_in p1 (0 : Int32) ((S0.1 53 (0 : Int32).toNatClampNeg) - (1 : Int32))  (fun r1 => ((r1 = 0 → Q (-1 : Int32)) ∧ (¬ r1 = 0 → (w_X7_in p2 (0 : Int32) (3 : Int32)  (fun r2 => ((¬ r2 = 0 → (vp_in (((1 : Int32) + ((12 : Int32) * p2)) + p1) 55 ∧ Q (S0.1 53 (((1 : Int32) + ((12 : Int32) * p2)) + p1).toNatClampNeg))) ∧ (r2 = 0 → Q (-1 : Int32))))))))))
set_option maxRecDepth 100000 in
set_option maxHeartbeats 4000000 in
theorem c_X7_held {e : GE} {S0 : St} {p1 : Int32} {p2 : Int32} {Q : Int32 → Prop} (h : w_X7_held S0 p1 p2 Q) : CT e yX7_held cX7_held 3 (some .int) 2 [.ref (e.2.2.1 49), .int p1, .int p2] S0 (pR S0 Q) := by
  refine CT.of (by decide) (Nat.le_of_ble_eq_true rfl) (fun Z hR => ?_)
  rw [w_X7_held] at h
  show MW Z e cX7_held 3 RX7 2 0 [(0, .ref (e.2.2.1 49)), (1, .int p1), (2, .int p2)] [] S0
  refine m_iload_n dX7_held_0 1 rfl rfl ?_
  refine m_iconst (v := 0) dX7_held_1 (by decide) ?_
  refine m_aload_n dX7_held_2 0 rfl rfl ?_
  refine m_get 49 5 (o_49 e _) rfl inlX7 (by decide) q5_17 rfl dX7_held_3 ?_
  refine m_iconst (v := 0) dX7_held_6 (by decide) ?_
  refine m_iald 53 (a_53 e _) h.1 dX7_held_7 ?_
  replace h := h.2
  refine m_iconst (v := 1) dX7_held_8 (by decide) ?_
  refine m_isub dX7_held_9 ?_
  refine m_callS [.int p1, .int (0 : Int32), .int ((S0.1 53 (0 : Int32).toNatClampNeg) - (1 : Int32))] (c_X7_in h) q6_8 q6_9 q1_5 q6_10 t_X7_in rfl (by omega) (by decide) (Nat.le_of_ble_eq_true rfl) rfl dX7_held_10 (kR (P := MW Z e cX7_held 3 RX7 2 13 [(0, .ref (e.2.2.1 49)), (1, .int p1), (2, .int p2)]) (fun r1 h => ?_))
  refine m_if_eq (tgt := 25) dX7_held_13 (by decide) (fun z => ?_) (fun z => ?_)
  · replace h := h.1 z
    refine m_iconst (v := -1) dX7_held_25 (by decide) ?_
    exact m_iret hR ⟨_, rfl, rfl, h⟩ dX7_held_26
  · replace h := h.2 z
    refine m_iload_n dX7_held_16 2 rfl rfl ?_
    refine m_iconst (v := 0) dX7_held_17 (by decide) ?_
    refine m_iconst (v := 3) dX7_held_18 (by decide) ?_
    refine m_callS [.int p2, .int (0 : Int32), .int (3 : Int32)] (c_X7_in h) q6_8 q6_9 q1_5 q6_10 t_X7_in rfl (by omega) (by decide) (Nat.le_of_ble_eq_true rfl) rfl dX7_held_19 (kR (P := MW Z e cX7_held 3 RX7 2 22 [(0, .ref (e.2.2.1 49)), (1, .int p1), (2, .int p2)]) (fun r2 h => ?_))
    refine m_if_ne (tgt := 27) dX7_held_22 (by decide) (fun z => ?_) (fun z => ?_)
    · replace h := h.1 z
      refine m_aload_n dX7_held_27 0 rfl rfl ?_
      refine m_get 49 5 (o_49 e _) rfl inlX7 (by decide) q5_17 rfl dX7_held_28 ?_
      refine m_iconst (v := 1) dX7_held_31 (by decide) ?_
      refine m_bipush (v := 12) dX7_held_32 (by decide) ?_
      refine m_iload_n dX7_held_34 2 rfl rfl ?_
      refine m_imul dX7_held_35 ?_
      refine m_iadd dX7_held_36 ?_
      refine m_iload_n dX7_held_37 1 rfl rfl ?_
      refine m_iadd dX7_held_38 ?_
      refine m_iald 53 (a_53 e _) h.1 dX7_held_39 ?_
      replace h := h.2
      exact m_iret hR ⟨_, rfl, rfl, h⟩ dX7_held_40
    · replace h := h.2 z
      refine m_iconst (v := -1) dX7_held_25 (by decide) ?_
      exact m_iret hR ⟨_, rfl, rfl, h⟩ dX7_held_26
def X7_plain_L5 (S5 : St) (f3 : Int32) (f4 : Int32) (kx : Int32 → Prop) : Nat → Int32 → Int32 → Prop
  | 0 => fun _ _ => False
  | n + 1 => (fun (rec : Int32 → Int32 → Prop) => fun (v1 : Int32) (v2 : Int32) => ((f4 < v2 → kx v1) ∧ (¬ f4 < v2 → (w_X7_paintOf S5 f3 v2  (fun r6 => ((¬ r6 = 0 → ∀ x7 : Int32, x7 = v1 + (0 : Int32) → ∀ x8 : Int32, x8 = v2 + (1 : Int32) → rec x7 x8) ∧ (r6 = 0 → (vp_in ((13 : Int32) + v2) 47 ∧ (vp_in ((4 : Int32) + f3) 47 ∧ ∀ x9 : Int32, x9 = v1 + ((S5.1 51 ((13 : Int32) + v2).toNatClampNeg) * (S5.1 51 ((4 : Int32) + f3).toNatClampNeg)) → ∀ x10 : Int32, x10 = v2 + (1 : Int32) → rec x9 x10))))))))) (X7_plain_L5 S5 f3 f4 kx n)
def w_X7_plain (S0 : St) (p1 : Int32) (p2 : Int32) (Q : Int32 → Prop) : Prop :=
  (∃ n : Nat, X7_plain_L5 S0 p1 p2 (fun (v12 : Int32) => Q v12) n (0 : Int32) (0 : Int32))
set_option maxRecDepth 100000 in
set_option maxHeartbeats 4000000 in
theorem l_X7_plain_L5 {Z : Zt} {e : GE} {S5 : St} {f3 : Int32} {f4 : Int32} {kx : Int32 → Prop} (hk : ∀ (v11 : Int32), kx v11 → MW Z e cX7_plain 5 RX7 2 53 [(3, .int v11)] [] S5) : ∀ (n : Nat) (v1 : Int32) (v2 : Int32), X7_plain_L5 S5 f3 f4 kx n v1 v2 → MW Z e cX7_plain 5 RX7 2 5 [(0, .ref (e.2.2.1 49)), (1, .int f3), (2, .int f4), (3, .int v1), (4, .int v2)] [] S5 := by
  intro n
  induction n with
  | zero =>
    intro v1 v2 h
    exact h.elim
  | succ n ih =>
    intro v1 v2 h
    rw [X7_plain_L5] at h
    refine m_iload dX7_plain_5 4 rfl ?_
    refine m_iload_n dX7_plain_7 2 rfl rfl ?_
    refine m_icmp_gt (tgt := 53) dX7_plain_8 (by decide) (fun z => ?_) (fun z => ?_)
    · replace h := h.1 z
      refine m_loc [3] rfl ?_
      exact hk v1 h
    · replace h := h.2 z
      refine m_iload_n dX7_plain_11 3 rfl rfl ?_
      refine m_aload_n dX7_plain_12 0 rfl rfl ?_
      refine m_iload_n dX7_plain_13 1 rfl rfl ?_
      refine m_iload dX7_plain_14 4 rfl ?_
      refine m_callV 49 [.int f3, .int v2] (c_X7_paintOf h) (o_49 e _) rfl rfl q18_5 q18_6 q18_7 q1_5 q18_8 t_X7_paintOf rfl (by omega) (by decide) (Nat.le_of_ble_eq_true rfl) rfl dX7_plain_16 (kR (P := MW Z e cX7_plain 5 RX7 2 19 [(0, .ref (e.2.2.1 49)), (1, .int f3), (2, .int f4), (3, .int v1), (4, .int v2)]) (fun r6 h => ?_))
      refine m_if_ne (tgt := 44) dX7_plain_19 (by decide) (fun z => ?_) (fun z => ?_)
      · replace h := h.1 z
        refine m_iconst (v := 0) dX7_plain_44 (by decide) ?_
        refine m_iadd dX7_plain_45 ?_
        refine m_topi (fun x7 ex7 => ?_)
        replace h := h x7 ex7
        refine m_istore_n (lv2 := [(3, .int x7), (0, .ref (e.2.2.1 49)), (1, .int f3), (2, .int f4), (4, .int v2)]) dX7_plain_46 rfl (by decide) rfl ?_
        obtain ⟨x8, ex8⟩ : ∃ y : Int32, y = v2 + (1 : Int32) := ⟨_, rfl⟩
        replace h := h x8 ex8
        refine m_iinc (v := x8) (lv2 := [(4, .int x8), (3, .int x7), (0, .ref (e.2.2.1 49)), (1, .int f3), (2, .int f4)]) dX7_plain_47 4 rfl ex8.symm (by decide) rfl ?_
        refine m_goto (tgt := 5) dX7_plain_50 (by decide) ?_
        refine m_loc [2, 3, 4, 1, 0] rfl ?_
        exact ih x7 x8 h
      · replace h := h.2 z
        refine m_aload_n dX7_plain_22 0 rfl rfl ?_
        refine m_get 49 3 (o_49 e _) rfl inlX7 (by decide) q5_15 rfl dX7_plain_23 ?_
        refine m_bipush (v := 13) dX7_plain_26 (by decide) ?_
        refine m_iload dX7_plain_28 4 rfl ?_
        refine m_iadd dX7_plain_30 ?_
        refine m_iald 51 (a_51 e _) h.1 dX7_plain_31 ?_
        replace h := h.2
        refine m_aload_n dX7_plain_32 0 rfl rfl ?_
        refine m_get 49 3 (o_49 e _) rfl inlX7 (by decide) q5_15 rfl dX7_plain_33 ?_
        refine m_iconst (v := 4) dX7_plain_36 (by decide) ?_
        refine m_iload_n dX7_plain_37 1 rfl rfl ?_
        refine m_iadd dX7_plain_38 ?_
        refine m_iald 51 (a_51 e _) h.1 dX7_plain_39 ?_
        replace h := h.2
        refine m_imul dX7_plain_40 ?_
        refine m_goto (tgt := 45) dX7_plain_41 (by decide) ?_
        refine m_iadd dX7_plain_45 ?_
        refine m_topi (fun x9 ex9 => ?_)
        replace h := h x9 ex9
        refine m_istore_n (lv2 := [(3, .int x9), (0, .ref (e.2.2.1 49)), (1, .int f3), (2, .int f4), (4, .int v2)]) dX7_plain_46 rfl (by decide) rfl ?_
        obtain ⟨x10, ex10⟩ : ∃ y : Int32, y = v2 + (1 : Int32) := ⟨_, rfl⟩
        replace h := h x10 ex10
        refine m_iinc (v := x10) (lv2 := [(4, .int x10), (3, .int x9), (0, .ref (e.2.2.1 49)), (1, .int f3), (2, .int f4)]) dX7_plain_47 4 rfl ex10.symm (by decide) rfl ?_
        refine m_goto (tgt := 5) dX7_plain_50 (by decide) ?_
        refine m_loc [2, 3, 4, 1, 0] rfl ?_
        exact ih x9 x10 h
set_option maxRecDepth 100000 in
set_option maxHeartbeats 4000000 in
theorem c_X7_plain {e : GE} {S0 : St} {p1 : Int32} {p2 : Int32} {Q : Int32 → Prop} (h : w_X7_plain S0 p1 p2 Q) : CT e yX7_plain cX7_plain 5 (some .int) 2 [.ref (e.2.2.1 49), .int p1, .int p2] S0 (pR S0 Q) := by
  refine CT.of (by decide) (Nat.le_of_ble_eq_true rfl) (fun Z hR => ?_)
  rw [w_X7_plain] at h
  show MW Z e cX7_plain 5 RX7 2 0 [(0, .ref (e.2.2.1 49)), (1, .int p1), (2, .int p2)] [] S0
  refine m_iconst (v := 0) dX7_plain_0 (by decide) ?_
  refine m_istore_n (lv2 := [(3, .int (0 : Int32)), (0, .ref (e.2.2.1 49)), (1, .int p1), (2, .int p2)]) dX7_plain_1 rfl (by decide) rfl ?_
  refine m_iconst (v := 0) dX7_plain_2 (by decide) ?_
  refine m_istore (lv2 := [(4, .int (0 : Int32)), (3, .int (0 : Int32)), (0, .ref (e.2.2.1 49)), (1, .int p1), (2, .int p2)]) dX7_plain_3 (by decide) rfl ?_
  obtain ⟨n, h⟩ := h
  refine m_loc [2, 3, 4, 1, 0] rfl ?_
  refine l_X7_plain_L5 (fun v12 h => ?_) n (0 : Int32) (0 : Int32) h
  refine m_iload_n dX7_plain_53 0 rfl rfl ?_
  exact m_iret hR ⟨_, rfl, rfl, h⟩ dX7_plain_54
def X7_rustOf_L24 (S12 : St) (f9 : Int32) (f10 : Int32) (f11 : Int32) (kx : Int32 → Prop) : Nat → Int32 → Int32 → Prop
  | 0 => fun _ _ => False
  | n + 1 => (fun (rec : Int32 → Int32 → Prop) => fun (v7 : Int32) (v8 : Int32) => (vp_in ((37 : Int32) + f11) 55 ∧ (((S12.1 53 ((37 : Int32) + f11).toNatClampNeg) ≤ v8 → kx v7) ∧ (¬ (S12.1 53 ((37 : Int32) + f11).toNatClampNeg) ≤ v8 → (vp_in ((25 : Int32) + f11) 55 ∧ ∀ x13 : Int32, x13 = (S12.1 53 ((25 : Int32) + f11).toNatClampNeg) + v8 → (vp_in ((13 : Int32) + f11) 55 ∧ ((¬ (S12.1 53 ((13 : Int32) + f11).toNatClampNeg) = f9 → ∀ x14 : Int32, x14 = v7 + (0 : Int32) → ∀ x15 : Int32, x15 = v8 + (1 : Int32) → rec x14 x15) ∧ ((S12.1 53 ((13 : Int32) + f11).toNatClampNeg) = f9 → ((f10 < x13 → ∀ x16 : Int32, x16 = v7 + (0 : Int32) → ∀ x17 : Int32, x17 = v8 + (1 : Int32) → rec x16 x17) ∧ (¬ f10 < x13 → (w_X7_paintOf S12 f9 x13  (fun r18 => ((r18 = (2 : Int32) → ∀ x19 : Int32, x19 = v7 + (0 : Int32) → ∀ x20 : Int32, x20 = v8 + (1 : Int32) → rec x19 x20) ∧ (¬ r18 = (2 : Int32) → (vp_in ((1 : Int32) + f11) 55 ∧ (vp_in ((10 : Int32) + (S12.1 53 ((1 : Int32) + f11).toNatClampNeg)) 47 ∧ ∀ x21 : Int32, x21 = v7 + (S12.1 51 ((10 : Int32) + (S12.1 53 ((1 : Int32) + f11).toNatClampNeg)).toNatClampNeg) → ∀ x22 : Int32, x22 = v8 + (1 : Int32) → rec x21 x22)))))))))))))))) (X7_rustOf_L24 S12 f9 f10 f11 kx n)
def X7_rustOf_L10 (S6 : St) (f4 : Int32) (f5 : Int32) (kx : Int32 → Prop) : Nat → Int32 → Int32 → Prop
  | 0 => fun _ _ => False
  | n + 1 => (fun (rec : Int32 → Int32 → Prop) => fun (v2 : Int32) (v3 : Int32) => (vp_in (0 : Int32) 55 ∧ (((S6.1 53 (0 : Int32).toNatClampNeg) ≤ v3 → kx v2) ∧ (¬ (S6.1 53 (0 : Int32).toNatClampNeg) ≤ v3 → (∃ n : Nat, X7_rustOf_L24 S6 f4 f5 v3 (fun (v24 : Int32) => ∀ x25 : Int32, x25 = v3 + (1 : Int32) → rec v24 x25) n v2 (0 : Int32)))))) (X7_rustOf_L10 S6 f4 f5 kx n)
def w_X7_rustOf (S0 : St) (p1 : Int32) (p2 : Int32) (Q : Int32 → Prop) : Prop :=
  (w_X7_plain S0 p1 p2  (fun r1 => (∃ n : Nat, X7_rustOf_L10 S0 p1 p2 (fun (v27 : Int32) => Q v27) n r1 (0 : Int32))))
set_option maxRecDepth 100000 in
set_option maxHeartbeats 4000000 in
theorem l_X7_rustOf_L24 {Z : Zt} {e : GE} {S12 : St} {f9 : Int32} {f10 : Int32} {f11 : Int32} {kx : Int32 → Prop} (hk : ∀ (v23 : Int32), kx v23 → MW Z e cX7_rustOf 7 RX7 3 115 [(0, .ref (e.2.2.1 49)), (1, .int f9), (2, .int f10), (3, .int v23), (4, .int f11)] [] S12) : ∀ (n : Nat) (v7 : Int32) (v8 : Int32), X7_rustOf_L24 S12 f9 f10 f11 kx n v7 v8 → MW Z e cX7_rustOf 7 RX7 3 24 [(0, .ref (e.2.2.1 49)), (1, .int f9), (2, .int f10), (3, .int v7), (4, .int f11), (5, .int v8)] [] S12 := by
  intro n
  induction n with
  | zero =>
    intro v7 v8 h
    exact h.elim
  | succ n ih =>
    intro v7 v8 h
    rw [X7_rustOf_L24] at h
    refine m_iload dX7_rustOf_24 5 rfl ?_
    refine m_aload_n dX7_rustOf_26 0 rfl rfl ?_
    refine m_get 49 5 (o_49 e _) rfl inlX7 (by decide) q5_17 rfl dX7_rustOf_27 ?_
    refine m_bipush (v := 37) dX7_rustOf_30 (by decide) ?_
    refine m_iload dX7_rustOf_32 4 rfl ?_
    refine m_iadd dX7_rustOf_34 ?_
    refine m_iald 53 (a_53 e _) h.1 dX7_rustOf_35 ?_
    replace h := h.2
    refine m_icmp_ge (tgt := 115) dX7_rustOf_36 (by decide) (fun z => ?_) (fun z => ?_)
    · replace h := h.1 z
      refine m_loc [0, 1, 2, 3, 4] rfl ?_
      exact hk v7 h
    · replace h := h.2 z
      refine m_aload_n dX7_rustOf_39 0 rfl rfl ?_
      refine m_get 49 5 (o_49 e _) rfl inlX7 (by decide) q5_17 rfl dX7_rustOf_40 ?_
      refine m_bipush (v := 25) dX7_rustOf_43 (by decide) ?_
      refine m_iload dX7_rustOf_45 4 rfl ?_
      refine m_iadd dX7_rustOf_47 ?_
      refine m_iald 53 (a_53 e _) h.1 dX7_rustOf_48 ?_
      replace h := h.2
      refine m_iload dX7_rustOf_49 5 rfl ?_
      refine m_iadd dX7_rustOf_51 ?_
      refine m_topi (fun x13 ex13 => ?_)
      replace h := h x13 ex13
      refine m_istore (lv2 := [(6, .int x13), (0, .ref (e.2.2.1 49)), (1, .int f9), (2, .int f10), (3, .int v7), (4, .int f11), (5, .int v8)]) dX7_rustOf_52 (by decide) rfl ?_
      refine m_iload_n dX7_rustOf_54 4 rfl rfl ?_
      refine m_aload_n dX7_rustOf_55 1 rfl rfl ?_
      refine m_get 49 5 (o_49 e _) rfl inlX7 (by decide) q5_17 rfl dX7_rustOf_56 ?_
      refine m_bipush (v := 13) dX7_rustOf_59 (by decide) ?_
      refine m_iload dX7_rustOf_61 5 rfl ?_
      refine m_iadd dX7_rustOf_63 ?_
      refine m_iald 53 (a_53 e _) h.1 dX7_rustOf_64 ?_
      replace h := h.2
      refine m_iload_n dX7_rustOf_65 2 rfl rfl ?_
      refine m_icmp_ne (tgt := 106) dX7_rustOf_66 (by decide) (fun z => ?_) (fun z => ?_)
      · replace h := h.1 z
        refine m_iconst (v := 0) dX7_rustOf_106 (by decide) ?_
        refine m_iadd dX7_rustOf_107 ?_
        refine m_topi (fun x14 ex14 => ?_)
        replace h := h x14 ex14
        refine m_istore_n (lv2 := [(3, .int x14), (6, .int x13), (0, .ref (e.2.2.1 49)), (1, .int f9), (2, .int f10), (4, .int f11), (5, .int v8)]) dX7_rustOf_108 rfl (by decide) rfl ?_
        obtain ⟨x15, ex15⟩ : ∃ y : Int32, y = v8 + (1 : Int32) := ⟨_, rfl⟩
        replace h := h x15 ex15
        refine m_iinc (v := x15) (lv2 := [(5, .int x15), (3, .int x14), (6, .int x13), (0, .ref (e.2.2.1 49)), (1, .int f9), (2, .int f10), (4, .int f11)]) dX7_rustOf_109 6 rfl ex15.symm (by decide) rfl ?_
        refine m_goto (tgt := 24) dX7_rustOf_112 (by decide) ?_
        refine m_loc [3, 4, 5, 1, 6, 0] rfl ?_
        exact ih x14 x15 h
      · replace h := h.2 z
        refine m_iload dX7_rustOf_69 0 rfl ?_
        refine m_iload_n dX7_rustOf_71 3 rfl rfl ?_
        refine m_icmp_gt (tgt := 106) dX7_rustOf_72 (by decide) (fun z => ?_) (fun z => ?_)
        · replace h := h.1 z
          refine m_iconst (v := 0) dX7_rustOf_106 (by decide) ?_
          refine m_iadd dX7_rustOf_107 ?_
          refine m_topi (fun x16 ex16 => ?_)
          replace h := h x16 ex16
          refine m_istore_n (lv2 := [(3, .int x16), (6, .int x13), (0, .ref (e.2.2.1 49)), (1, .int f9), (2, .int f10), (4, .int f11), (5, .int v8)]) dX7_rustOf_108 rfl (by decide) rfl ?_
          obtain ⟨x17, ex17⟩ : ∃ y : Int32, y = v8 + (1 : Int32) := ⟨_, rfl⟩
          replace h := h x17 ex17
          refine m_iinc (v := x17) (lv2 := [(5, .int x17), (3, .int x16), (6, .int x13), (0, .ref (e.2.2.1 49)), (1, .int f9), (2, .int f10), (4, .int f11)]) dX7_rustOf_109 6 rfl ex17.symm (by decide) rfl ?_
          refine m_goto (tgt := 24) dX7_rustOf_112 (by decide) ?_
          refine m_loc [3, 4, 5, 1, 6, 0] rfl ?_
          exact ih x16 x17 h
        · replace h := h.2 z
          refine m_aload_n dX7_rustOf_75 1 rfl rfl ?_
          refine m_iload_n dX7_rustOf_76 2 rfl rfl ?_
          refine m_iload dX7_rustOf_77 0 rfl ?_
          refine m_callV 49 [.int f9, .int x13] (c_X7_paintOf h) (o_49 e _) rfl rfl q18_5 q18_6 q18_7 q1_5 q18_8 t_X7_paintOf rfl (by omega) (by decide) (Nat.le_of_ble_eq_true rfl) rfl dX7_rustOf_79 (kR (P := MW Z e cX7_rustOf 7 RX7 3 82 [(6, .int x13), (0, .ref (e.2.2.1 49)), (1, .int f9), (2, .int f10), (3, .int v7), (4, .int f11), (5, .int v8)]) (fun r18 h => ?_))
          refine m_iconst (v := 2) dX7_rustOf_82 (by decide) ?_
          refine m_icmp_eq (tgt := 106) dX7_rustOf_83 (by decide) (fun z => ?_) (fun z => ?_)
          · replace h := h.1 z
            refine m_iconst (v := 0) dX7_rustOf_106 (by decide) ?_
            refine m_iadd dX7_rustOf_107 ?_
            refine m_topi (fun x19 ex19 => ?_)
            replace h := h x19 ex19
            refine m_istore_n (lv2 := [(3, .int x19), (6, .int x13), (0, .ref (e.2.2.1 49)), (1, .int f9), (2, .int f10), (4, .int f11), (5, .int v8)]) dX7_rustOf_108 rfl (by decide) rfl ?_
            obtain ⟨x20, ex20⟩ : ∃ y : Int32, y = v8 + (1 : Int32) := ⟨_, rfl⟩
            replace h := h x20 ex20
            refine m_iinc (v := x20) (lv2 := [(5, .int x20), (3, .int x19), (6, .int x13), (0, .ref (e.2.2.1 49)), (1, .int f9), (2, .int f10), (4, .int f11)]) dX7_rustOf_109 6 rfl ex20.symm (by decide) rfl ?_
            refine m_goto (tgt := 24) dX7_rustOf_112 (by decide) ?_
            refine m_loc [3, 4, 5, 1, 6, 0] rfl ?_
            exact ih x19 x20 h
          · replace h := h.2 z
            refine m_aload_n dX7_rustOf_86 1 rfl rfl ?_
            refine m_get 49 3 (o_49 e _) rfl inlX7 (by decide) q5_15 rfl dX7_rustOf_87 ?_
            refine m_bipush (v := 10) dX7_rustOf_90 (by decide) ?_
            refine m_aload_n dX7_rustOf_92 1 rfl rfl ?_
            refine m_get 49 5 (o_49 e _) rfl inlX7 (by decide) q5_17 rfl dX7_rustOf_93 ?_
            refine m_iconst (v := 1) dX7_rustOf_96 (by decide) ?_
            refine m_iload dX7_rustOf_97 5 rfl ?_
            refine m_iadd dX7_rustOf_99 ?_
            refine m_iald 53 (a_53 e _) h.1 dX7_rustOf_100 ?_
            replace h := h.2
            refine m_iadd dX7_rustOf_101 ?_
            refine m_iald 51 (a_51 e _) h.1 dX7_rustOf_102 ?_
            replace h := h.2
            refine m_goto (tgt := 107) dX7_rustOf_103 (by decide) ?_
            refine m_iadd dX7_rustOf_107 ?_
            refine m_topi (fun x21 ex21 => ?_)
            replace h := h x21 ex21
            refine m_istore_n (lv2 := [(3, .int x21), (6, .int x13), (0, .ref (e.2.2.1 49)), (1, .int f9), (2, .int f10), (4, .int f11), (5, .int v8)]) dX7_rustOf_108 rfl (by decide) rfl ?_
            obtain ⟨x22, ex22⟩ : ∃ y : Int32, y = v8 + (1 : Int32) := ⟨_, rfl⟩
            replace h := h x22 ex22
            refine m_iinc (v := x22) (lv2 := [(5, .int x22), (3, .int x21), (6, .int x13), (0, .ref (e.2.2.1 49)), (1, .int f9), (2, .int f10), (4, .int f11)]) dX7_rustOf_109 6 rfl ex22.symm (by decide) rfl ?_
            refine m_goto (tgt := 24) dX7_rustOf_112 (by decide) ?_
            refine m_loc [3, 4, 5, 1, 6, 0] rfl ?_
            exact ih x21 x22 h
set_option maxRecDepth 100000 in
set_option maxHeartbeats 4000000 in
theorem l_X7_rustOf_L10 {Z : Zt} {e : GE} {S6 : St} {f4 : Int32} {f5 : Int32} {kx : Int32 → Prop} (hk : ∀ (v26 : Int32), kx v26 → MW Z e cX7_rustOf 7 RX7 3 121 [(3, .int v26)] [] S6) : ∀ (n : Nat) (v2 : Int32) (v3 : Int32), X7_rustOf_L10 S6 f4 f5 kx n v2 v3 → MW Z e cX7_rustOf 7 RX7 3 10 [(0, .ref (e.2.2.1 49)), (1, .int f4), (2, .int f5), (3, .int v2), (4, .int v3)] [] S6 := by
  intro n
  induction n with
  | zero =>
    intro v2 v3 h
    exact h.elim
  | succ n ih =>
    intro v2 v3 h
    rw [X7_rustOf_L10] at h
    refine m_iload dX7_rustOf_10 4 rfl ?_
    refine m_aload_n dX7_rustOf_12 0 rfl rfl ?_
    refine m_get 49 5 (o_49 e _) rfl inlX7 (by decide) q5_17 rfl dX7_rustOf_13 ?_
    refine m_iconst (v := 0) dX7_rustOf_16 (by decide) ?_
    refine m_iald 53 (a_53 e _) h.1 dX7_rustOf_17 ?_
    replace h := h.2
    refine m_icmp_ge (tgt := 121) dX7_rustOf_18 (by decide) (fun z => ?_) (fun z => ?_)
    · replace h := h.1 z
      refine m_loc [3] rfl ?_
      exact hk v2 h
    · replace h := h.2 z
      refine m_iconst (v := 0) dX7_rustOf_21 (by decide) ?_
      refine m_istore (lv2 := [(5, .int (0 : Int32)), (0, .ref (e.2.2.1 49)), (1, .int f4), (2, .int f5), (3, .int v2), (4, .int v3)]) dX7_rustOf_22 (by decide) rfl ?_
      obtain ⟨n, h⟩ := h
      refine m_loc [1, 2, 3, 4, 5, 0] rfl ?_
      refine l_X7_rustOf_L24 (fun v24 h => ?_) n v2 (0 : Int32) h
      obtain ⟨x25, ex25⟩ : ∃ y : Int32, y = v3 + (1 : Int32) := ⟨_, rfl⟩
      replace h := h x25 ex25
      refine m_iinc (v := x25) (lv2 := [(4, .int x25), (0, .ref (e.2.2.1 49)), (1, .int f4), (2, .int f5), (3, .int v24)]) dX7_rustOf_115 4 rfl ex25.symm (by decide) rfl ?_
      refine m_goto (tgt := 10) dX7_rustOf_118 (by decide) ?_
      refine m_loc [1, 2, 3, 4, 0] rfl ?_
      exact ih v24 x25 h
set_option maxRecDepth 100000 in
set_option maxHeartbeats 4000000 in
theorem c_X7_rustOf {e : GE} {S0 : St} {p1 : Int32} {p2 : Int32} {Q : Int32 → Prop} (h : w_X7_rustOf S0 p1 p2 Q) : CT e yX7_rustOf cX7_rustOf 7 (some .int) 3 [.ref (e.2.2.1 49), .int p1, .int p2] S0 (pR S0 Q) := by
  refine CT.of (by decide) (Nat.le_of_ble_eq_true rfl) (fun Z hR => ?_)
  rw [w_X7_rustOf] at h
  show MW Z e cX7_rustOf 7 RX7 3 0 [(0, .ref (e.2.2.1 49)), (1, .int p1), (2, .int p2)] [] S0
  refine m_aload_n dX7_rustOf_0 0 rfl rfl ?_
  refine m_iload_n dX7_rustOf_1 1 rfl rfl ?_
  refine m_iload_n dX7_rustOf_2 2 rfl rfl ?_
  refine m_callV 49 [.int p1, .int p2] (c_X7_plain h) (o_49 e _) rfl rfl q21_0 q21_1 q21_2 q1_5 q21_3 t_X7_plain rfl (by omega) (by decide) (Nat.le_of_ble_eq_true rfl) rfl dX7_rustOf_3 (kR (P := MW Z e cX7_rustOf 7 RX7 3 6 [(0, .ref (e.2.2.1 49)), (1, .int p1), (2, .int p2)]) (fun r1 h => ?_))
  refine m_istore_n (lv2 := [(3, .int r1), (0, .ref (e.2.2.1 49)), (1, .int p1), (2, .int p2)]) dX7_rustOf_6 rfl (by decide) rfl ?_
  refine m_iconst (v := 0) dX7_rustOf_7 (by decide) ?_
  refine m_istore (lv2 := [(4, .int (0 : Int32)), (3, .int r1), (0, .ref (e.2.2.1 49)), (1, .int p1), (2, .int p2)]) dX7_rustOf_8 (by decide) rfl ?_
  obtain ⟨n, h⟩ := h
  refine m_loc [2, 3, 4, 1, 0] rfl ?_
  refine l_X7_rustOf_L10 (fun v27 h => ?_) n r1 (0 : Int32) h
  refine m_iload_n dX7_rustOf_121 0 rfl rfl ?_
  exact m_iret hR ⟨_, rfl, rfl, h⟩ dX7_rustOf_122
def w_X7_rust (S0 : St) (p1 : Int32) (p2 : Int32) (Q : Int32 → Prop) : Prop :=
  (w_X7_isBar S0 p1  (fun r1 => ((r1 = 0 → Q (-1 : Int32)) ∧ (¬ r1 = 0 → (w_X7_in p2 (0 : Int32) (9 : Int32)  (fun r2 => ((r2 = 0 → Q (-1 : Int32)) ∧ (¬ r2 = 0 → (w_X7_rustOf S0 p1 p2  (fun r3 => Q r3))))))))))
set_option maxRecDepth 100000 in
set_option maxHeartbeats 4000000 in
theorem c_X7_rust {e : GE} {S0 : St} {p1 : Int32} {p2 : Int32} {Q : Int32 → Prop} (h : w_X7_rust S0 p1 p2 Q) : CT e yX7_rust cX7_rust 3 (some .int) 4 [.ref (e.2.2.1 49), .int p1, .int p2] S0 (pR S0 Q) := by
  refine CT.of (by decide) (Nat.le_of_ble_eq_true rfl) (fun Z hR => ?_)
  rw [w_X7_rust] at h
  show MW Z e cX7_rust 3 RX7 4 0 [(0, .ref (e.2.2.1 49)), (1, .int p1), (2, .int p2)] [] S0
  refine m_aload_n dX7_rust_0 0 rfl rfl ?_
  refine m_iload_n dX7_rust_1 1 rfl rfl ?_
  refine m_callV 49 [.int p1] (c_X7_isBar h) (o_49 e _) rfl rfl q16_4 q16_5 q16_6 q1_5 q16_7 t_X7_isBar rfl (by omega) (by decide) (Nat.le_of_ble_eq_true rfl) rfl dX7_rust_2 (kR (P := MW Z e cX7_rust 3 RX7 4 5 [(0, .ref (e.2.2.1 49)), (1, .int p1), (2, .int p2)]) (fun r1 h => ?_))
  refine m_if_eq (tgt := 27) dX7_rust_5 (by decide) (fun z => ?_) (fun z => ?_)
  · replace h := h.1 z
    refine m_iconst (v := -1) dX7_rust_27 (by decide) ?_
    exact m_iret hR ⟨_, rfl, rfl, h⟩ dX7_rust_28
  · replace h := h.2 z
    refine m_iload_n dX7_rust_8 2 rfl rfl ?_
    refine m_iconst (v := 0) dX7_rust_9 (by decide) ?_
    refine m_bipush (v := 9) dX7_rust_10 (by decide) ?_
    refine m_callS [.int p2, .int (0 : Int32), .int (9 : Int32)] (c_X7_in h) q6_8 q6_9 q1_5 q6_10 t_X7_in rfl (by omega) (by decide) (Nat.le_of_ble_eq_true rfl) rfl dX7_rust_12 (kR (P := MW Z e cX7_rust 3 RX7 4 15 [(0, .ref (e.2.2.1 49)), (1, .int p1), (2, .int p2)]) (fun r2 h => ?_))
    refine m_if_eq (tgt := 27) dX7_rust_15 (by decide) (fun z => ?_) (fun z => ?_)
    · replace h := h.1 z
      refine m_iconst (v := -1) dX7_rust_27 (by decide) ?_
      exact m_iret hR ⟨_, rfl, rfl, h⟩ dX7_rust_28
    · replace h := h.2 z
      refine m_aload_n dX7_rust_18 0 rfl rfl ?_
      refine m_iload_n dX7_rust_19 1 rfl rfl ?_
      refine m_iload_n dX7_rust_20 2 rfl rfl ?_
      refine m_callV 49 [.int p1, .int p2] (c_X7_rustOf h) (o_49 e _) rfl rfl q20_20 q20_21 q20_22 q1_5 q20_23 t_X7_rustOf rfl (by omega) (by decide) (Nat.le_of_ble_eq_true rfl) rfl dX7_rust_21 (kR (P := MW Z e cX7_rust 3 RX7 4 24 [(0, .ref (e.2.2.1 49)), (1, .int p1), (2, .int p2)]) (fun r3 h => ?_))
      refine m_goto (tgt := 28) dX7_rust_24 (by decide) ?_
      exact m_iret hR ⟨_, rfl, rfl, h⟩ dX7_rust_28
def w_X7_saw (S0 : St) (p1 : Int32) (p2 : Int32) (Q : Int32 → St → Prop) : Prop :=
  (w_X7_isBar S0 p1  (fun r1 => ((r1 = 0 → Q (-1 : Int32) S0) ∧ (¬ r1 = 0 → (w_X7_in p2 (0 : Int32) (999 : Int32)  (fun r2 => ((¬ r2 = 0 → (vp_in ((49 : Int32) + p1) 55 ∧ ∀ x3 : Int32, x3 = S0.1 53 ((49 : Int32) + p1).toNatClampNeg → (vp_in ((49 : Int32) + p1) 55 ∧ ∀ S4 : St, S4 = setA S0 53 (upd (S0.1 53) ((49 : Int32) + p1).toNatClampNeg p2) → Q x3 S4))) ∧ (r2 = 0 → Q (-1 : Int32) S0))))))))
set_option maxRecDepth 100000 in
set_option maxHeartbeats 4000000 in
theorem c_X7_saw {e : GE} {S0 : St} {p1 : Int32} {p2 : Int32} {Q : Int32 → St → Prop} (h : w_X7_saw S0 p1 p2 Q) : CT e yX7_saw cX7_saw 4 (some .int) 3 [.ref (e.2.2.1 49), .int p1, .int p2] S0 (pI Q) := by
  refine CT.of (by decide) (Nat.le_of_ble_eq_true rfl) (fun Z hR => ?_)
  rw [w_X7_saw] at h
  show MW Z e cX7_saw 4 RX7 3 0 [(0, .ref (e.2.2.1 49)), (1, .int p1), (2, .int p2)] [] S0
  refine m_aload_n dX7_saw_0 0 rfl rfl ?_
  refine m_iload_n dX7_saw_1 1 rfl rfl ?_
  refine m_callV 49 [.int p1] (c_X7_isBar h) (o_49 e _) rfl rfl q16_4 q16_5 q16_6 q1_5 q16_7 t_X7_isBar rfl (by omega) (by decide) (Nat.le_of_ble_eq_true rfl) rfl dX7_saw_2 (kR (P := MW Z e cX7_saw 4 RX7 3 5 [(0, .ref (e.2.2.1 49)), (1, .int p1), (2, .int p2)]) (fun r1 h => ?_))
  refine m_if_eq (tgt := 19) dX7_saw_5 (by decide) (fun z => ?_) (fun z => ?_)
  · replace h := h.1 z
    refine m_iconst (v := -1) dX7_saw_19 (by decide) ?_
    exact m_iret hR ⟨_, rfl, h⟩ dX7_saw_20
  · replace h := h.2 z
    refine m_iload_n dX7_saw_8 2 rfl rfl ?_
    refine m_iconst (v := 0) dX7_saw_9 (by decide) ?_
    refine m_sipush (v := 999) dX7_saw_10 (by decide) ?_
    refine m_callS [.int p2, .int (0 : Int32), .int (999 : Int32)] (c_X7_in h) q6_8 q6_9 q1_5 q6_10 t_X7_in rfl (by omega) (by decide) (Nat.le_of_ble_eq_true rfl) rfl dX7_saw_13 (kR (P := MW Z e cX7_saw 4 RX7 3 16 [(0, .ref (e.2.2.1 49)), (1, .int p1), (2, .int p2)]) (fun r2 h => ?_))
    refine m_if_ne (tgt := 21) dX7_saw_16 (by decide) (fun z => ?_) (fun z => ?_)
    · replace h := h.1 z
      refine m_aload_n dX7_saw_21 0 rfl rfl ?_
      refine m_get 49 5 (o_49 e _) rfl inlX7 (by decide) q5_17 rfl dX7_saw_22 ?_
      refine m_bipush (v := 49) dX7_saw_25 (by decide) ?_
      refine m_iload_n dX7_saw_27 1 rfl rfl ?_
      refine m_iadd dX7_saw_28 ?_
      refine m_iald 53 (a_53 e _) h.1 dX7_saw_29 ?_
      replace h := h.2
      refine m_topi (fun x3 ex3 => ?_)
      replace h := h x3 ex3
      refine m_istore_n (lv2 := [(3, .int x3), (0, .ref (e.2.2.1 49)), (1, .int p1), (2, .int p2)]) dX7_saw_30 rfl (by decide) rfl ?_
      refine m_aload_n dX7_saw_31 1 rfl rfl ?_
      refine m_get 49 5 (o_49 e _) rfl inlX7 (by decide) q5_17 rfl dX7_saw_32 ?_
      refine m_bipush (v := 49) dX7_saw_35 (by decide) ?_
      refine m_iload_n dX7_saw_37 2 rfl rfl ?_
      refine m_iadd dX7_saw_38 ?_
      refine m_iload_n dX7_saw_39 3 rfl rfl ?_
      refine m_iast 53 (a_53 e _) (aw_53 e _) h.1 dX7_saw_40 (fun S4 eS4 => ?_)
      replace h := h.2 S4 eS4
      refine m_iload_n dX7_saw_41 0 rfl rfl ?_
      exact m_iret hR ⟨_, rfl, h⟩ dX7_saw_42
    · replace h := h.2 z
      refine m_iconst (v := -1) dX7_saw_19 (by decide) ?_
      exact m_iret hR ⟨_, rfl, h⟩ dX7_saw_20
def w_X7_hide (S0 : St) (p1 : Int32) (Q : Int32 → St → Prop) : Prop :=
  (w_X7_isBar S0 p1  (fun r1 => ((¬ r1 = 0 → (vp_in ((49 : Int32) + p1) 55 ∧ ((¬ (S0.1 53 ((49 : Int32) + p1).toNatClampNeg) = (-9 : Int32) → (vp_in ((49 : Int32) + p1) 55 ∧ ∀ x2 : Int32, x2 = S0.1 53 ((49 : Int32) + p1).toNatClampNeg → (vp_in ((49 : Int32) + p1) 55 ∧ ∀ S3 : St, S3 = setA S0 53 (upd (S0.1 53) ((49 : Int32) + p1).toNatClampNeg (-9 : Int32)) → Q x2 S3))) ∧ ((S0.1 53 ((49 : Int32) + p1).toNatClampNeg) = (-9 : Int32) → Q (-2 : Int32) S0)))) ∧ (r1 = 0 → Q (-1 : Int32) S0))))
set_option maxRecDepth 100000 in
set_option maxHeartbeats 4000000 in
theorem c_X7_hide {e : GE} {S0 : St} {p1 : Int32} {Q : Int32 → St → Prop} (h : w_X7_hide S0 p1 Q) : CT e yX7_hide cX7_hide 3 (some .int) 3 [.ref (e.2.2.1 49), .int p1] S0 (pI Q) := by
  refine CT.of (by decide) (Nat.le_of_ble_eq_true rfl) (fun Z hR => ?_)
  rw [w_X7_hide] at h
  show MW Z e cX7_hide 3 RX7 3 0 [(0, .ref (e.2.2.1 49)), (1, .int p1)] [] S0
  refine m_aload_n dX7_hide_0 0 rfl rfl ?_
  refine m_iload_n dX7_hide_1 1 rfl rfl ?_
  refine m_callV 49 [.int p1] (c_X7_isBar h) (o_49 e _) rfl rfl q16_4 q16_5 q16_6 q1_5 q16_7 t_X7_isBar rfl (by omega) (by decide) (Nat.le_of_ble_eq_true rfl) rfl dX7_hide_2 (kR (P := MW Z e cX7_hide 3 RX7 3 5 [(0, .ref (e.2.2.1 49)), (1, .int p1)]) (fun r1 h => ?_))
  refine m_if_ne (tgt := 10) dX7_hide_5 (by decide) (fun z => ?_) (fun z => ?_)
  · replace h := h.1 z
    refine m_aload_n dX7_hide_10 0 rfl rfl ?_
    refine m_get 49 5 (o_49 e _) rfl inlX7 (by decide) q5_17 rfl dX7_hide_11 ?_
    refine m_bipush (v := 49) dX7_hide_14 (by decide) ?_
    refine m_iload_n dX7_hide_16 1 rfl rfl ?_
    refine m_iadd dX7_hide_17 ?_
    refine m_iald 53 (a_53 e _) h.1 dX7_hide_18 ?_
    replace h := h.2
    refine m_bipush (v := -9) dX7_hide_19 (by decide) ?_
    refine m_icmp_ne (tgt := 27) dX7_hide_21 (by decide) (fun z => ?_) (fun z => ?_)
    · replace h := h.1 z
      refine m_aload_n dX7_hide_27 0 rfl rfl ?_
      refine m_get 49 5 (o_49 e _) rfl inlX7 (by decide) q5_17 rfl dX7_hide_28 ?_
      refine m_bipush (v := 49) dX7_hide_31 (by decide) ?_
      refine m_iload_n dX7_hide_33 1 rfl rfl ?_
      refine m_iadd dX7_hide_34 ?_
      refine m_iald 53 (a_53 e _) h.1 dX7_hide_35 ?_
      replace h := h.2
      refine m_topi (fun x2 ex2 => ?_)
      replace h := h x2 ex2
      refine m_istore_n (lv2 := [(2, .int x2), (0, .ref (e.2.2.1 49)), (1, .int p1)]) dX7_hide_36 rfl (by decide) rfl ?_
      refine m_aload_n dX7_hide_37 1 rfl rfl ?_
      refine m_get 49 5 (o_49 e _) rfl inlX7 (by decide) q5_17 rfl dX7_hide_38 ?_
      refine m_bipush (v := 49) dX7_hide_41 (by decide) ?_
      refine m_iload_n dX7_hide_43 2 rfl rfl ?_
      refine m_iadd dX7_hide_44 ?_
      refine m_bipush (v := -9) dX7_hide_45 (by decide) ?_
      refine m_iast 53 (a_53 e _) (aw_53 e _) h.1 dX7_hide_47 (fun S3 eS3 => ?_)
      replace h := h.2 S3 eS3
      refine m_iload_n dX7_hide_48 0 rfl rfl ?_
      exact m_iret hR ⟨_, rfl, h⟩ dX7_hide_49
    · replace h := h.2 z
      refine m_bipush (v := -2) dX7_hide_24 (by decide) ?_
      exact m_iret hR ⟨_, rfl, h⟩ dX7_hide_26
  · replace h := h.2 z
    refine m_iconst (v := -1) dX7_hide_8 (by decide) ?_
    exact m_iret hR ⟨_, rfl, h⟩ dX7_hide_9
def w_X7_seen (S0 : St) (p1 : Int32) (Q : Int32 → Prop) : Prop :=
  (w_X7_isBar S0 p1  (fun r1 => ((r1 = 0 → Q (-1 : Int32)) ∧ (¬ r1 = 0 → (vp_in ((49 : Int32) + p1) 55 ∧ Q (S0.1 53 ((49 : Int32) + p1).toNatClampNeg))))))
set_option maxRecDepth 100000 in
set_option maxHeartbeats 4000000 in
theorem c_X7_seen {e : GE} {S0 : St} {p1 : Int32} {Q : Int32 → Prop} (h : w_X7_seen S0 p1 Q) : CT e yX7_seen cX7_seen 2 (some .int) 3 [.ref (e.2.2.1 49), .int p1] S0 (pR S0 Q) := by
  refine CT.of (by decide) (Nat.le_of_ble_eq_true rfl) (fun Z hR => ?_)
  rw [w_X7_seen] at h
  show MW Z e cX7_seen 2 RX7 3 0 [(0, .ref (e.2.2.1 49)), (1, .int p1)] [] S0
  refine m_aload_n dX7_seen_0 0 rfl rfl ?_
  refine m_iload_n dX7_seen_1 1 rfl rfl ?_
  refine m_callV 49 [.int p1] (c_X7_isBar h) (o_49 e _) rfl rfl q16_4 q16_5 q16_6 q1_5 q16_7 t_X7_isBar rfl (by omega) (by decide) (Nat.le_of_ble_eq_true rfl) rfl dX7_seen_2 (kR (P := MW Z e cX7_seen 2 RX7 3 5 [(0, .ref (e.2.2.1 49)), (1, .int p1)]) (fun r1 h => ?_))
  refine m_if_eq (tgt := 20) dX7_seen_5 (by decide) (fun z => ?_) (fun z => ?_)
  · replace h := h.1 z
    refine m_iconst (v := -1) dX7_seen_20 (by decide) ?_
    exact m_iret hR ⟨_, rfl, rfl, h⟩ dX7_seen_21
  · replace h := h.2 z
    refine m_aload_n dX7_seen_8 0 rfl rfl ?_
    refine m_get 49 5 (o_49 e _) rfl inlX7 (by decide) q5_17 rfl dX7_seen_9 ?_
    refine m_bipush (v := 49) dX7_seen_12 (by decide) ?_
    refine m_iload_n dX7_seen_14 1 rfl rfl ?_
    refine m_iadd dX7_seen_15 ?_
    refine m_iald 53 (a_53 e _) h.1 dX7_seen_16 ?_
    replace h := h.2
    refine m_goto (tgt := 21) dX7_seen_17 (by decide) ?_
    exact m_iret hR ⟨_, rfl, rfl, h⟩ dX7_seen_21
def X7_lays_L29 (f8 : Int32) (kx : St → Prop) : Nat → St → Int32 → Int32 → Prop
  | 0 => fun _ _ _ => False
  | n + 1 => (fun (rec : St → Int32 → Int32 → Prop) => fun (S5 : St) (v6 : Int32) (v7 : Int32) => (((10 : Int32) ≤ v7 → kx S5) ∧ (¬ (10 : Int32) ≤ v7 → (w_X7_paintOf S5 f8 v7  (fun r9 => (∀ J10 : Int32 → Prop, J10 = (fun (x11 : Int32) => ∀ x12 : Int32, x12 = v6 + x11 → (vp_in (((10 : Int32) * f8) + v7) 60 ∧ ∀ S13 : St, S13 = setA S5 57 (upd (S5.1 57) (((10 : Int32) * f8) + v7).toNatClampNeg x12) → ∀ x14 : Int32, x14 = v7 + (1 : Int32) → rec S13 x12 x14)) → ((¬ r9 = (2 : Int32) → J10 (1 : Int32)) ∧ (r9 = (2 : Int32) → J10 (0 : Int32))))))))) (X7_lays_L29 f8 kx n)
def X7_lays_L2 (kx : St → Prop) : Nat → St → Int32 → Prop
  | 0 => fun _ _ => False
  | n + 1 => (fun (rec : St → Int32 → Prop) => fun (S1 : St) (v2 : Int32) => (vp_in (0 : Int32) 47 ∧ (((S1.1 51 (0 : Int32).toNatClampNeg) ≤ v2 → kx S1) ∧ (¬ (S1.1 51 (0 : Int32).toNatClampNeg) ≤ v2 → (w_X7_plain S1 v2 (9 : Int32)  (fun r3 => (vp_in v2 6 ∧ ∀ S4 : St, S4 = setA S1 56 (upd (S1.1 56) v2.toNatClampNeg r3) → (∃ n : Nat, X7_lays_L29 v2 (fun (S16 : St) => ∀ x17 : Int32, x17 = v2 + (1 : Int32) → rec S16 x17) n S4 (0 : Int32) (0 : Int32))))))))) (X7_lays_L2 kx n)
def X7_lays_L84 (kx : St → Prop) : Nat → St → Int32 → Prop
  | 0 => fun _ _ => False
  | n + 1 => (fun (rec : St → Int32 → Prop) => fun (S21 : St) (v22 : Int32) => (vp_in (1 : Int32) 47 ∧ (((S21.1 51 (1 : Int32).toNatClampNeg) ≤ v22 → kx S21) ∧ (¬ (S21.1 51 (1 : Int32).toNatClampNeg) ≤ v22 → (vp_in (0 : Int32) 47 ∧ ∀ S23 : St, S23 = setI S21 5015 ((S21.1 5015 0) * ((1 : Int32) + ((10 : Int32) * (S21.1 51 (0 : Int32).toNatClampNeg)))) → ∀ x24 : Int32, x24 = v22 + (1 : Int32) → rec S23 x24))))) (X7_lays_L84 kx n)
def w_X7_lays (S0 : St)  (Q : St → Prop) : Prop :=
  (∃ n : Nat, X7_lays_L2 (fun (S19 : St) => ∀ S20 : St, S20 = setI S19 5015 (1 : Int32) → (∃ n : Nat, X7_lays_L84 (fun (S26 : St) => Q S26) n S20 (0 : Int32))) n S0 (0 : Int32))
set_option maxRecDepth 100000 in
set_option maxHeartbeats 4000000 in
theorem l_X7_lays_L29 {Z : Zt} {e : GE} {f8 : Int32} {kx : St → Prop} (hk : ∀ (S15 : St), kx S15 → MW Z e cX7_lays 4 RX7 3 71 [(0, .ref (e.2.2.1 49)), (1, .int f8)] [] S15) : ∀ (n : Nat) (S5 : St) (v6 : Int32) (v7 : Int32), X7_lays_L29 f8 kx n S5 v6 v7 → MW Z e cX7_lays 4 RX7 3 29 [(0, .ref (e.2.2.1 49)), (1, .int f8), (2, .int v6), (3, .int v7)] [] S5 := by
  intro n
  induction n with
  | zero =>
    intro S5 v6 v7 h
    exact h.elim
  | succ n ih =>
    intro S5 v6 v7 h
    rw [X7_lays_L29] at h
    refine m_iload_n dX7_lays_29 3 rfl rfl ?_
    refine m_bipush (v := 10) dX7_lays_30 (by decide) ?_
    refine m_icmp_ge (tgt := 71) dX7_lays_32 (by decide) (fun z => ?_) (fun z => ?_)
    · replace h := h.1 z
      refine m_loc [0, 1] rfl ?_
      exact hk S5 h
    · replace h := h.2 z
      refine m_iload_n dX7_lays_35 2 rfl rfl ?_
      refine m_aload_n dX7_lays_36 0 rfl rfl ?_
      refine m_iload_n dX7_lays_37 1 rfl rfl ?_
      refine m_iload_n dX7_lays_38 3 rfl rfl ?_
      refine m_callV 49 [.int f8, .int v7] (c_X7_paintOf h) (o_49 e _) rfl rfl q18_5 q18_6 q18_7 q1_5 q18_8 t_X7_paintOf rfl (by omega) (by decide) (Nat.le_of_ble_eq_true rfl) rfl dX7_lays_39 (kR (P := MW Z e cX7_lays 4 RX7 3 42 [(0, .ref (e.2.2.1 49)), (1, .int f8), (2, .int v6), (3, .int v7)]) (fun r9 h => ?_))
      refine m_iconst (v := 2) dX7_lays_42 (by decide) ?_
      obtain ⟨J10, eJ10, h⟩ := jn h
      have kJ10 : ∀ (x11 : Int32), J10 x11 → MW Z e cX7_lays 4 RX7 3 51 [(0, .ref (e.2.2.1 49)), (1, .int f8), (3, .int v7)] [.int x11, .int v6] S5 := by
        intro x11 h
        rw [eJ10] at h
        refine m_iadd dX7_lays_51 ?_
        refine m_topi (fun x12 ex12 => ?_)
        replace h := h x12 ex12
        refine m_istore_n (lv2 := [(2, .int x12), (0, .ref (e.2.2.1 49)), (1, .int f8), (3, .int v7)]) dX7_lays_52 rfl (by decide) rfl ?_
        refine m_aload_n dX7_lays_53 1 rfl rfl ?_
        refine m_get 49 13 (o_49 e _) rfl inlX7 (by decide) q5_21 rfl dX7_lays_54 ?_
        refine m_bipush (v := 10) dX7_lays_57 (by decide) ?_
        refine m_iload_n dX7_lays_59 2 rfl rfl ?_
        refine m_imul dX7_lays_60 ?_
        refine m_iload_n dX7_lays_61 3 rfl rfl ?_
        refine m_iadd dX7_lays_62 ?_
        refine m_iload_n dX7_lays_63 0 rfl rfl ?_
        refine m_iast 57 (a_57 e _) (aw_57 e _) h.1 dX7_lays_64 (fun S13 eS13 => ?_)
        replace h := h.2 S13 eS13
        obtain ⟨x14, ex14⟩ : ∃ y : Int32, y = v7 + (1 : Int32) := ⟨_, rfl⟩
        replace h := h x14 ex14
        refine m_iinc (v := x14) (lv2 := [(3, .int x14), (2, .int x12), (0, .ref (e.2.2.1 49)), (1, .int f8)]) dX7_lays_65 3 rfl ex14.symm (by decide) rfl ?_
        refine m_goto (tgt := 29) dX7_lays_68 (by decide) ?_
        refine m_loc [2, 3, 1, 0] rfl ?_
        exact ih S13 x12 x14 h
      refine m_icmp_ne (tgt := 50) dX7_lays_43 (by decide) (fun z => ?_) (fun z => ?_)
      · replace h := h.1 z
        refine m_iconst (v := 1) dX7_lays_50 (by decide) ?_
        refine m_loc [0, 1, 3] rfl ?_
        exact kJ10 (1 : Int32) h
      · replace h := h.2 z
        refine m_iconst (v := 0) dX7_lays_46 (by decide) ?_
        refine m_goto (tgt := 51) dX7_lays_47 (by decide) ?_
        refine m_loc [0, 1, 3] rfl ?_
        exact kJ10 (0 : Int32) h
set_option maxRecDepth 100000 in
set_option maxHeartbeats 4000000 in
theorem l_X7_lays_L2 {Z : Zt} {e : GE} {kx : St → Prop} (hk : ∀ (S18 : St), kx S18 → MW Z e cX7_lays 4 RX7 3 77 [(0, .ref (e.2.2.1 49))] [] S18) : ∀ (n : Nat) (S1 : St) (v2 : Int32), X7_lays_L2 kx n S1 v2 → MW Z e cX7_lays 4 RX7 3 2 [(0, .ref (e.2.2.1 49)), (1, .int v2)] [] S1 := by
  intro n
  induction n with
  | zero =>
    intro S1 v2 h
    exact h.elim
  | succ n ih =>
    intro S1 v2 h
    rw [X7_lays_L2] at h
    refine m_iload_n dX7_lays_2 1 rfl rfl ?_
    refine m_aload_n dX7_lays_3 0 rfl rfl ?_
    refine m_get 49 3 (o_49 e _) rfl inlX7 (by decide) q5_15 rfl dX7_lays_4 ?_
    refine m_iconst (v := 0) dX7_lays_7 (by decide) ?_
    refine m_iald 51 (a_51 e _) h.1 dX7_lays_8 ?_
    replace h := h.2
    refine m_icmp_ge (tgt := 77) dX7_lays_9 (by decide) (fun z => ?_) (fun z => ?_)
    · replace h := h.1 z
      refine m_loc [0] rfl ?_
      exact hk S1 h
    · replace h := h.2 z
      refine m_aload_n dX7_lays_12 0 rfl rfl ?_
      refine m_get 49 12 (o_49 e _) rfl inlX7 (by decide) q5_20 rfl dX7_lays_13 ?_
      refine m_iload_n dX7_lays_16 1 rfl rfl ?_
      refine m_aload_n dX7_lays_17 0 rfl rfl ?_
      refine m_iload_n dX7_lays_18 1 rfl rfl ?_
      refine m_bipush (v := 9) dX7_lays_19 (by decide) ?_
      refine m_callV 49 [.int v2, .int (9 : Int32)] (c_X7_plain h) (o_49 e _) rfl rfl q21_0 q21_1 q21_2 q1_5 q21_3 t_X7_plain rfl (by omega) (by decide) (Nat.le_of_ble_eq_true rfl) rfl dX7_lays_21 (kR (P := MW Z e cX7_lays 4 RX7 3 24 [(0, .ref (e.2.2.1 49)), (1, .int v2)]) (fun r3 h => ?_))
      refine m_iast 56 (a_56 e _) (aw_56 e _) h.1 dX7_lays_24 (fun S4 eS4 => ?_)
      replace h := h.2 S4 eS4
      refine m_iconst (v := 0) dX7_lays_25 (by decide) ?_
      refine m_istore_n (lv2 := [(2, .int (0 : Int32)), (0, .ref (e.2.2.1 49)), (1, .int v2)]) dX7_lays_26 rfl (by decide) rfl ?_
      refine m_iconst (v := 0) dX7_lays_27 (by decide) ?_
      refine m_istore_n (lv2 := [(3, .int (0 : Int32)), (2, .int (0 : Int32)), (0, .ref (e.2.2.1 49)), (1, .int v2)]) dX7_lays_28 rfl (by decide) rfl ?_
      obtain ⟨n, h⟩ := h
      refine m_loc [2, 3, 1, 0] rfl ?_
      refine l_X7_lays_L29 (fun S16 h => ?_) n S4 (0 : Int32) (0 : Int32) h
      obtain ⟨x17, ex17⟩ : ∃ y : Int32, y = v2 + (1 : Int32) := ⟨_, rfl⟩
      replace h := h x17 ex17
      refine m_iinc (v := x17) (lv2 := [(1, .int x17), (0, .ref (e.2.2.1 49))]) dX7_lays_71 1 rfl ex17.symm (by decide) rfl ?_
      refine m_goto (tgt := 2) dX7_lays_74 (by decide) ?_
      refine m_loc [1, 0] rfl ?_
      exact ih S16 x17 h
set_option maxRecDepth 100000 in
set_option maxHeartbeats 4000000 in
theorem l_X7_lays_L84 {Z : Zt} {e : GE} {kx : St → Prop} (hk : ∀ (S25 : St), kx S25 → MW Z e cX7_lays 4 RX7 3 120 [] [] S25) : ∀ (n : Nat) (S21 : St) (v22 : Int32), X7_lays_L84 kx n S21 v22 → MW Z e cX7_lays 4 RX7 3 84 [(0, .ref (e.2.2.1 49)), (1, .int v22)] [] S21 := by
  intro n
  induction n with
  | zero =>
    intro S21 v22 h
    exact h.elim
  | succ n ih =>
    intro S21 v22 h
    rw [X7_lays_L84] at h
    refine m_iload_n dX7_lays_84 1 rfl rfl ?_
    refine m_aload_n dX7_lays_85 0 rfl rfl ?_
    refine m_get 49 3 (o_49 e _) rfl inlX7 (by decide) q5_15 rfl dX7_lays_86 ?_
    refine m_iconst (v := 1) dX7_lays_89 (by decide) ?_
    refine m_iald 51 (a_51 e _) h.1 dX7_lays_90 ?_
    replace h := h.2
    refine m_icmp_ge (tgt := 120) dX7_lays_91 (by decide) (fun z => ?_) (fun z => ?_)
    · replace h := h.1 z
      refine m_loc [] rfl ?_
      exact hk S21 h
    · replace h := h.2 z
      refine m_aload_n dX7_lays_94 0 rfl rfl ?_
      refine m_dup dX7_lays_95 rfl ?_
      refine m_get 49 15 (o_49 e _) rfl inlX7 (by decide) q24_7 rfl dX7_lays_96 ?_
      refine m_iconst (v := 1) dX7_lays_99 (by decide) ?_
      refine m_bipush (v := 10) dX7_lays_100 (by decide) ?_
      refine m_aload_n dX7_lays_102 0 rfl rfl ?_
      refine m_get 49 3 (o_49 e _) rfl inlX7 (by decide) q5_15 rfl dX7_lays_103 ?_
      refine m_iconst (v := 0) dX7_lays_106 (by decide) ?_
      refine m_iald 51 (a_51 e _) h.1 dX7_lays_107 ?_
      replace h := h.2
      refine m_imul dX7_lays_108 ?_
      refine m_iadd dX7_lays_109 ?_
      refine m_imul dX7_lays_110 ?_
      refine m_put (S2 := setI S21 5015 ((S21.1 5015 0) * ((1 : Int32) + ((10 : Int32) * (S21.1 51 (0 : Int32).toNatClampNeg))))) 49 15 tyX7 tyX7_ok nmX7 (o_49 e _) rfl inlX7 (by decide) q24_7 rfl (tyX7_ok 15 (by decide)) rfl rfl (Nat.le_of_ble_eq_true rfl) (p_49_15 e _ _) dX7_lays_111 (fun S23 eS23 => ?_)
      replace h := h S23 eS23
      obtain ⟨x24, ex24⟩ : ∃ y : Int32, y = v22 + (1 : Int32) := ⟨_, rfl⟩
      replace h := h x24 ex24
      refine m_iinc (v := x24) (lv2 := [(1, .int x24), (0, .ref (e.2.2.1 49))]) dX7_lays_114 1 rfl ex24.symm (by decide) rfl ?_
      refine m_goto (tgt := 84) dX7_lays_117 (by decide) ?_
      refine m_loc [1, 0] rfl ?_
      exact ih S23 x24 h
set_option maxRecDepth 100000 in
set_option maxHeartbeats 4000000 in
theorem c_X7_lays {e : GE} {S0 : St}  {Q : St → Prop} (h : w_X7_lays S0  Q) : CT e yX7_lays cX7_lays 4 none 3 [.ref (e.2.2.1 49)] S0 (pV Q) := by
  refine CT.of (by decide) (Nat.le_of_ble_eq_true rfl) (fun Z hR => ?_)
  rw [w_X7_lays] at h
  show MW Z e cX7_lays 4 RX7 3 0 [(0, .ref (e.2.2.1 49))] [] S0
  refine m_iconst (v := 0) dX7_lays_0 (by decide) ?_
  refine m_istore_n (lv2 := [(1, .int (0 : Int32)), (0, .ref (e.2.2.1 49))]) dX7_lays_1 rfl (by decide) rfl ?_
  obtain ⟨n, h⟩ := h
  refine m_loc [1, 0] rfl ?_
  refine l_X7_lays_L2 (fun S19 h => ?_) n S0 (0 : Int32) h
  refine m_aload_n dX7_lays_77 0 rfl rfl ?_
  refine m_iconst (v := 1) dX7_lays_78 (by decide) ?_
  refine m_put (S2 := setI S19 5015 (1 : Int32)) 49 15 tyX7 tyX7_ok nmX7 (o_49 e _) rfl inlX7 (by decide) q24_7 rfl (tyX7_ok 15 (by decide)) rfl rfl (Nat.le_of_ble_eq_true rfl) (p_49_15 e _ _) dX7_lays_79 (fun S20 eS20 => ?_)
  replace h := h S20 eS20
  refine m_iconst (v := 0) dX7_lays_82 (by decide) ?_
  refine m_istore_n (lv2 := [(1, .int (0 : Int32)), (0, .ref (e.2.2.1 49))]) dX7_lays_83 rfl (by decide) rfl ?_
  obtain ⟨n, h⟩ := h
  refine m_loc [1, 0] rfl ?_
  refine l_X7_lays_L84 (fun S26 h => ?_) n S20 (0 : Int32) h
  exact m_vret hR ⟨rfl, h⟩ dX7_lays_120
def X7_figureOf_L5 (S4 : St) (f3 : Int32) (kx : Int32 → Prop) : Nat → Int32 → Int32 → Prop
  | 0 => fun _ _ => False
  | n + 1 => (fun (rec : Int32 → Int32 → Prop) => fun (v1 : Int32) (v2 : Int32) => ((f3 ≤ v2 → kx v1) ∧ (¬ f3 ≤ v2 → (vp_in (0 : Int32) 47 ∧ (¬ ((1 : Int32) + ((10 : Int32) * (S4.1 51 (0 : Int32).toNatClampNeg))) = 0 ∧ ∀ x5 : Int32, x5 = v1 / ((1 : Int32) + ((10 : Int32) * (S4.1 51 (0 : Int32).toNatClampNeg))) → ∀ x6 : Int32, x6 = v2 + (1 : Int32) → rec x5 x6))))) (X7_figureOf_L5 S4 f3 kx n)
def w_X7_figureOf (S0 : St) (p1 : Int32) (p2 : Int32) (Q : Int32 → Prop) : Prop :=
  (∃ n : Nat, X7_figureOf_L5 S0 p2 (fun (v8 : Int32) => (vp_in (0 : Int32) 47 ∧ (¬ ((1 : Int32) + ((10 : Int32) * (S0.1 51 (0 : Int32).toNatClampNeg))) = 0 ∧ Q (v8 - v8 / ((1 : Int32) + ((10 : Int32) * (S0.1 51 (0 : Int32).toNatClampNeg))) * ((1 : Int32) + ((10 : Int32) * (S0.1 51 (0 : Int32).toNatClampNeg))))))) n p1 (0 : Int32))
set_option maxRecDepth 100000 in
set_option maxHeartbeats 4000000 in
theorem l_X7_figureOf_L5 {Z : Zt} {e : GE} {S4 : St} {f3 : Int32} {kx : Int32 → Prop} (hk : ∀ (v7 : Int32), kx v7 → MW Z e cX7_figureOf 5 RX7 1 31 [(0, .ref (e.2.2.1 49)), (3, .int v7)] [] S4) : ∀ (n : Nat) (v1 : Int32) (v2 : Int32), X7_figureOf_L5 S4 f3 kx n v1 v2 → MW Z e cX7_figureOf 5 RX7 1 5 [(0, .ref (e.2.2.1 49)), (2, .int f3), (3, .int v1), (4, .int v2)] [] S4 := by
  intro n
  induction n with
  | zero =>
    intro v1 v2 h
    exact h.elim
  | succ n ih =>
    intro v1 v2 h
    rw [X7_figureOf_L5] at h
    refine m_iload dX7_figureOf_5 3 rfl ?_
    refine m_iload_n dX7_figureOf_7 1 rfl rfl ?_
    refine m_icmp_ge (tgt := 31) dX7_figureOf_8 (by decide) (fun z => ?_) (fun z => ?_)
    · replace h := h.1 z
      refine m_loc [0, 2] rfl ?_
      exact hk v1 h
    · replace h := h.2 z
      refine m_iload_n dX7_figureOf_11 2 rfl rfl ?_
      refine m_iconst (v := 1) dX7_figureOf_12 (by decide) ?_
      refine m_bipush (v := 10) dX7_figureOf_13 (by decide) ?_
      refine m_aload_n dX7_figureOf_15 0 rfl rfl ?_
      refine m_get 49 3 (o_49 e _) rfl inlX7 (by decide) q5_15 rfl dX7_figureOf_16 ?_
      refine m_iconst (v := 0) dX7_figureOf_19 (by decide) ?_
      refine m_iald 51 (a_51 e _) h.1 dX7_figureOf_20 ?_
      replace h := h.2
      refine m_imul dX7_figureOf_21 ?_
      refine m_iadd dX7_figureOf_22 ?_
      refine m_idiv dX7_figureOf_23 h.1 ?_
      replace h := h.2
      refine m_topi (fun x5 ex5 => ?_)
      replace h := h x5 ex5
      refine m_istore_n (lv2 := [(3, .int x5), (0, .ref (e.2.2.1 49)), (2, .int f3), (4, .int v2)]) dX7_figureOf_24 rfl (by decide) rfl ?_
      obtain ⟨x6, ex6⟩ : ∃ y : Int32, y = v2 + (1 : Int32) := ⟨_, rfl⟩
      replace h := h x6 ex6
      refine m_iinc (v := x6) (lv2 := [(4, .int x6), (3, .int x5), (0, .ref (e.2.2.1 49)), (2, .int f3)]) dX7_figureOf_25 3 rfl ex6.symm (by decide) rfl ?_
      refine m_goto (tgt := 5) dX7_figureOf_28 (by decide) ?_
      refine m_loc [2, 3, 1, 0] rfl ?_
      exact ih x5 x6 h
set_option maxRecDepth 100000 in
set_option maxHeartbeats 4000000 in
theorem c_X7_figureOf {e : GE} {S0 : St} {p1 : Int32} {p2 : Int32} {Q : Int32 → Prop} (h : w_X7_figureOf S0 p1 p2 Q) : CT e yX7_figureOf cX7_figureOf 5 (some .int) 1 [.ref (e.2.2.1 49), .int p1, .int p2] S0 (pR S0 Q) := by
  refine CT.of (by decide) (Nat.le_of_ble_eq_true rfl) (fun Z hR => ?_)
  rw [w_X7_figureOf] at h
  show MW Z e cX7_figureOf 5 RX7 1 0 [(0, .ref (e.2.2.1 49)), (1, .int p1), (2, .int p2)] [] S0
  refine m_iload_n dX7_figureOf_0 1 rfl rfl ?_
  refine m_istore_n (lv2 := [(3, .int p1), (0, .ref (e.2.2.1 49)), (1, .int p1), (2, .int p2)]) dX7_figureOf_1 rfl (by decide) rfl ?_
  refine m_iconst (v := 0) dX7_figureOf_2 (by decide) ?_
  refine m_istore (lv2 := [(4, .int (0 : Int32)), (3, .int p1), (0, .ref (e.2.2.1 49)), (1, .int p1), (2, .int p2)]) dX7_figureOf_3 (by decide) rfl ?_
  obtain ⟨n, h⟩ := h
  refine m_loc [2, 4, 1, 0] rfl ?_
  refine l_X7_figureOf_L5 (fun v8 h => ?_) n p1 (0 : Int32) h
  refine m_iload_n dX7_figureOf_31 1 rfl rfl ?_
  refine m_iconst (v := 1) dX7_figureOf_32 (by decide) ?_
  refine m_bipush (v := 10) dX7_figureOf_33 (by decide) ?_
  refine m_aload_n dX7_figureOf_35 0 rfl rfl ?_
  refine m_get 49 3 (o_49 e _) rfl inlX7 (by decide) q5_15 rfl dX7_figureOf_36 ?_
  refine m_iconst (v := 0) dX7_figureOf_39 (by decide) ?_
  refine m_iald 51 (a_51 e _) h.1 dX7_figureOf_40 ?_
  replace h := h.2
  refine m_imul dX7_figureOf_41 ?_
  refine m_iadd dX7_figureOf_42 ?_
  refine m_irem dX7_figureOf_43 h.1 ?_
  replace h := h.2
  exact m_iret hR ⟨_, rfl, rfl, h⟩ dX7_figureOf_44
def X7_isWay_L2 (f3 : Int32) (kx : St → Prop) : Nat → St → Int32 → Prop
  | 0 => fun _ _ => False
  | n + 1 => (fun (rec : St → Int32 → Prop) => fun (S1 : St) (v2 : Int32) => (vp_in (0 : Int32) 47 ∧ (((S1.1 51 (0 : Int32).toNatClampNeg) ≤ v2 → kx S1) ∧ (¬ (S1.1 51 (0 : Int32).toNatClampNeg) ≤ v2 → (vp_in v2 6 ∧ (vp_in v2 6 ∧ ∀ S4 : St, S4 = setA S1 58 (upd (S1.1 58) v2.toNatClampNeg (S1.1 56 v2.toNatClampNeg)) → ∀ x5 : Int32, x5 = v2 + (1 : Int32) → rec S4 x5)))))) (X7_isWay_L2 f3 kx n)
def X7_isWay_L32 (f10 : Int32) (kx : St → Prop) : Nat → St → Int32 → Prop
  | 0 => fun _ _ => False
  | n + 1 => (fun (rec : St → Int32 → Prop) => fun (S8 : St) (v9 : Int32) => (vp_in (1 : Int32) 47 ∧ (((S8.1 51 (1 : Int32).toNatClampNeg) ≤ v9 → kx S8) ∧ (¬ (S8.1 51 (1 : Int32).toNatClampNeg) ≤ v9 → (w_X7_figureOf S8 f10 v9  (fun r11 => ((r11 ≤ 0 → ∀ x12 : Int32, x12 = v9 + (1 : Int32) → rec S8 x12) ∧ (¬ r11 ≤ 0 → (¬ (10 : Int32) = 0 ∧ (vp_in ((r11 - (1 : Int32)) / (10 : Int32)) 6 ∧ (vp_in ((10 : Int32) + v9) 47 ∧ (vp_in (r11 - (1 : Int32)) 60 ∧ (vp_in ((r11 - (1 : Int32)) / (10 : Int32)) 6 ∧ ∀ S13 : St, S13 = setA S8 58 (upd (S8.1 58) ((r11 - (1 : Int32)) / (10 : Int32)).toNatClampNeg ((S8.1 58 ((r11 - (1 : Int32)) / (10 : Int32)).toNatClampNeg) + ((S8.1 51 ((10 : Int32) + v9).toNatClampNeg) * (S8.1 57 (r11 - (1 : Int32)).toNatClampNeg)))) → ∀ x14 : Int32, x14 = v9 + (1 : Int32) → rec S13 x14))))))))))))) (X7_isWay_L32 f10 kx n)
def X7_isWay_L95 (S19 : St) (kx : Int32 → Prop) : Nat → Int32 → Int32 → Prop
  | 0 => fun _ _ => False
  | n + 1 => (fun (rec : Int32 → Int32 → Prop) => fun (v17 : Int32) (v18 : Int32) => (vp_in (0 : Int32) 47 ∧ (((S19.1 51 (0 : Int32).toNatClampNeg) ≤ v18 → kx v17) ∧ (¬ (S19.1 51 (0 : Int32).toNatClampNeg) ≤ v18 → ((v17 = 0 → ∀ x20 : Int32, x20 = v18 + (1 : Int32) → rec (0 : Int32) x20) ∧ (¬ v17 = 0 → (vp_in ((49 : Int32) + v18) 55 ∧ (((S19.1 53 ((49 : Int32) + v18).toNatClampNeg) = (-9 : Int32) → ∀ x21 : Int32, x21 = v18 + (1 : Int32) → rec (1 : Int32) x21) ∧ (¬ (S19.1 53 ((49 : Int32) + v18).toNatClampNeg) = (-9 : Int32) → (vp_in ((49 : Int32) + v18) 55 ∧ (vp_in v18 6 ∧ ((¬ (S19.1 53 ((49 : Int32) + v18).toNatClampNeg) = (S19.1 58 v18.toNatClampNeg) → ∀ x22 : Int32, x22 = v18 + (1 : Int32) → rec (0 : Int32) x22) ∧ ((S19.1 53 ((49 : Int32) + v18).toNatClampNeg) = (S19.1 58 v18.toNatClampNeg) → ∀ x23 : Int32, x23 = v18 + (1 : Int32) → rec (1 : Int32) x23))))))))))))) (X7_isWay_L95 S19 kx n)
def w_X7_isWay (S0 : St) (p1 : Int32) (Q : Int32 → St → Prop) : Prop :=
  (∃ n : Nat, X7_isWay_L2 p1 (fun (S7 : St) => (∃ n : Nat, X7_isWay_L32 p1 (fun (S16 : St) => (∃ n : Nat, X7_isWay_L95 S16 (fun (v25 : Int32) => (zok v25 ∧ Q v25 S16)) n (1 : Int32) (0 : Int32))) n S7 (0 : Int32))) n S0 (0 : Int32))
set_option maxRecDepth 100000 in
set_option maxHeartbeats 4000000 in
theorem l_X7_isWay_L2 {Z : Zt} {e : GE} {f3 : Int32} {kx : St → Prop} (hk : ∀ (S6 : St), kx S6 → MW Z e cX7_isWay 4 RX7 2 30 [(0, .ref (e.2.2.1 49)), (1, .int f3)] [] S6) : ∀ (n : Nat) (S1 : St) (v2 : Int32), X7_isWay_L2 f3 kx n S1 v2 → MW Z e cX7_isWay 4 RX7 2 2 [(0, .ref (e.2.2.1 49)), (1, .int f3), (2, .int v2)] [] S1 := by
  intro n
  induction n with
  | zero =>
    intro S1 v2 h
    exact h.elim
  | succ n ih =>
    intro S1 v2 h
    rw [X7_isWay_L2] at h
    refine m_iload_n dX7_isWay_2 2 rfl rfl ?_
    refine m_aload_n dX7_isWay_3 0 rfl rfl ?_
    refine m_get 49 3 (o_49 e _) rfl inlX7 (by decide) q5_15 rfl dX7_isWay_4 ?_
    refine m_iconst (v := 0) dX7_isWay_7 (by decide) ?_
    refine m_iald 51 (a_51 e _) h.1 dX7_isWay_8 ?_
    replace h := h.2
    refine m_icmp_ge (tgt := 30) dX7_isWay_9 (by decide) (fun z => ?_) (fun z => ?_)
    · replace h := h.1 z
      refine m_loc [0, 1] rfl ?_
      exact hk S1 h
    · replace h := h.2 z
      refine m_aload_n dX7_isWay_12 0 rfl rfl ?_
      refine m_get 49 14 (o_49 e _) rfl inlX7 (by decide) q5_22 rfl dX7_isWay_13 ?_
      refine m_iload_n dX7_isWay_16 2 rfl rfl ?_
      refine m_aload_n dX7_isWay_17 0 rfl rfl ?_
      refine m_get 49 12 (o_49 e _) rfl inlX7 (by decide) q5_20 rfl dX7_isWay_18 ?_
      refine m_iload_n dX7_isWay_21 2 rfl rfl ?_
      refine m_iald 56 (a_56 e _) h.1 dX7_isWay_22 ?_
      replace h := h.2
      refine m_iast 58 (a_58 e _) (aw_58 e _) h.1 dX7_isWay_23 (fun S4 eS4 => ?_)
      replace h := h.2 S4 eS4
      obtain ⟨x5, ex5⟩ : ∃ y : Int32, y = v2 + (1 : Int32) := ⟨_, rfl⟩
      replace h := h x5 ex5
      refine m_iinc (v := x5) (lv2 := [(2, .int x5), (0, .ref (e.2.2.1 49)), (1, .int f3)]) dX7_isWay_24 2 rfl ex5.symm (by decide) rfl ?_
      refine m_goto (tgt := 2) dX7_isWay_27 (by decide) ?_
      refine m_loc [1, 2, 0] rfl ?_
      exact ih S4 x5 h
set_option maxRecDepth 100000 in
set_option maxHeartbeats 4000000 in
theorem l_X7_isWay_L32 {Z : Zt} {e : GE} {f10 : Int32} {kx : St → Prop} (hk : ∀ (S15 : St), kx S15 → MW Z e cX7_isWay 4 RX7 2 91 [(0, .ref (e.2.2.1 49))] [] S15) : ∀ (n : Nat) (S8 : St) (v9 : Int32), X7_isWay_L32 f10 kx n S8 v9 → MW Z e cX7_isWay 4 RX7 2 32 [(0, .ref (e.2.2.1 49)), (1, .int f10), (2, .int v9)] [] S8 := by
  intro n
  induction n with
  | zero =>
    intro S8 v9 h
    exact h.elim
  | succ n ih =>
    intro S8 v9 h
    rw [X7_isWay_L32] at h
    refine m_iload_n dX7_isWay_32 2 rfl rfl ?_
    refine m_aload_n dX7_isWay_33 0 rfl rfl ?_
    refine m_get 49 3 (o_49 e _) rfl inlX7 (by decide) q5_15 rfl dX7_isWay_34 ?_
    refine m_iconst (v := 1) dX7_isWay_37 (by decide) ?_
    refine m_iald 51 (a_51 e _) h.1 dX7_isWay_38 ?_
    replace h := h.2
    refine m_icmp_ge (tgt := 91) dX7_isWay_39 (by decide) (fun z => ?_) (fun z => ?_)
    · replace h := h.1 z
      refine m_loc [0] rfl ?_
      exact hk S8 h
    · replace h := h.2 z
      refine m_aload_n dX7_isWay_42 0 rfl rfl ?_
      refine m_iload_n dX7_isWay_43 1 rfl rfl ?_
      refine m_iload_n dX7_isWay_44 2 rfl rfl ?_
      refine m_callV 49 [.int f10, .int v9] (c_X7_figureOf h) (o_49 e _) rfl rfl q24_16 q24_17 q24_18 q1_5 q24_19 t_X7_figureOf rfl (by omega) (by decide) (Nat.le_of_ble_eq_true rfl) rfl dX7_isWay_45 (kR (P := MW Z e cX7_isWay 4 RX7 2 48 [(0, .ref (e.2.2.1 49)), (1, .int f10), (2, .int v9)]) (fun r11 h => ?_))
      refine m_istore_n (lv2 := [(3, .int r11), (0, .ref (e.2.2.1 49)), (1, .int f10), (2, .int v9)]) dX7_isWay_48 rfl (by decide) rfl ?_
      refine m_iload_n dX7_isWay_49 0 rfl rfl ?_
      refine m_if_le (tgt := 85) dX7_isWay_50 (by decide) (fun z => ?_) (fun z => ?_)
      · replace h := h.1 z
        obtain ⟨x12, ex12⟩ : ∃ y : Int32, y = v9 + (1 : Int32) := ⟨_, rfl⟩
        replace h := h x12 ex12
        refine m_iinc (v := x12) (lv2 := [(2, .int x12), (3, .int r11), (0, .ref (e.2.2.1 49)), (1, .int f10)]) dX7_isWay_85 3 rfl ex12.symm (by decide) rfl ?_
        refine m_goto (tgt := 32) dX7_isWay_88 (by decide) ?_
        refine m_loc [2, 3, 0] rfl ?_
        exact ih S8 x12 h
      · replace h := h.2 z
        refine m_aload_n dX7_isWay_53 1 rfl rfl ?_
        refine m_get 49 14 (o_49 e _) rfl inlX7 (by decide) q5_22 rfl dX7_isWay_54 ?_
        refine m_iload_n dX7_isWay_57 0 rfl rfl ?_
        refine m_iconst (v := 1) dX7_isWay_58 (by decide) ?_
        refine m_isub dX7_isWay_59 ?_
        refine m_bipush (v := 10) dX7_isWay_60 (by decide) ?_
        refine m_idiv dX7_isWay_62 h.1 ?_
        replace h := h.2
        refine m_dup2 dX7_isWay_63 rfl rfl ?_
        refine m_iald 58 (a_58 e _) h.1 dX7_isWay_64 ?_
        replace h := h.2
        refine m_aload_n dX7_isWay_65 1 rfl rfl ?_
        refine m_get 49 3 (o_49 e _) rfl inlX7 (by decide) q5_15 rfl dX7_isWay_66 ?_
        refine m_bipush (v := 10) dX7_isWay_69 (by decide) ?_
        refine m_iload_n dX7_isWay_71 3 rfl rfl ?_
        refine m_iadd dX7_isWay_72 ?_
        refine m_iald 51 (a_51 e _) h.1 dX7_isWay_73 ?_
        replace h := h.2
        refine m_aload_n dX7_isWay_74 1 rfl rfl ?_
        refine m_get 49 13 (o_49 e _) rfl inlX7 (by decide) q5_21 rfl dX7_isWay_75 ?_
        refine m_iload_n dX7_isWay_78 0 rfl rfl ?_
        refine m_iconst (v := 1) dX7_isWay_79 (by decide) ?_
        refine m_isub dX7_isWay_80 ?_
        refine m_iald 57 (a_57 e _) h.1 dX7_isWay_81 ?_
        replace h := h.2
        refine m_imul dX7_isWay_82 ?_
        refine m_iadd dX7_isWay_83 ?_
        refine m_iast 58 (a_58 e _) (aw_58 e _) h.1 dX7_isWay_84 (fun S13 eS13 => ?_)
        replace h := h.2 S13 eS13
        obtain ⟨x14, ex14⟩ : ∃ y : Int32, y = v9 + (1 : Int32) := ⟨_, rfl⟩
        replace h := h x14 ex14
        refine m_iinc (v := x14) (lv2 := [(2, .int x14), (3, .int r11), (0, .ref (e.2.2.1 49)), (1, .int f10)]) dX7_isWay_85 3 rfl ex14.symm (by decide) rfl ?_
        refine m_goto (tgt := 32) dX7_isWay_88 (by decide) ?_
        refine m_loc [2, 3, 0] rfl ?_
        exact ih S13 x14 h
set_option maxRecDepth 100000 in
set_option maxHeartbeats 4000000 in
theorem l_X7_isWay_L95 {Z : Zt} {e : GE} {S19 : St} {kx : Int32 → Prop} (hk : ∀ (v24 : Int32), kx v24 → MW Z e cX7_isWay 4 RX7 2 153 [(2, .int v24)] [] S19) : ∀ (n : Nat) (v17 : Int32) (v18 : Int32), X7_isWay_L95 S19 kx n v17 v18 → MW Z e cX7_isWay 4 RX7 2 95 [(0, .ref (e.2.2.1 49)), (2, .int v17), (3, .int v18)] [] S19 := by
  intro n
  induction n with
  | zero =>
    intro v17 v18 h
    exact h.elim
  | succ n ih =>
    intro v17 v18 h
    rw [X7_isWay_L95] at h
    refine m_iload_n dX7_isWay_95 2 rfl rfl ?_
    refine m_aload_n dX7_isWay_96 0 rfl rfl ?_
    refine m_get 49 3 (o_49 e _) rfl inlX7 (by decide) q5_15 rfl dX7_isWay_97 ?_
    refine m_iconst (v := 0) dX7_isWay_100 (by decide) ?_
    refine m_iald 51 (a_51 e _) h.1 dX7_isWay_101 ?_
    replace h := h.2
    refine m_icmp_ge (tgt := 153) dX7_isWay_102 (by decide) (fun z => ?_) (fun z => ?_)
    · replace h := h.1 z
      refine m_loc [1] rfl ?_
      exact hk v17 h
    · replace h := h.2 z
      refine m_iload_n dX7_isWay_105 1 rfl rfl ?_
      refine m_if_eq (tgt := 145) dX7_isWay_106 (by decide) (fun z => ?_) (fun z => ?_)
      · replace h := h.1 z
        refine m_iconst (v := 0) dX7_isWay_145 (by decide) ?_
        refine m_istore_n (lv2 := [(2, .int (0 : Int32)), (0, .ref (e.2.2.1 49)), (3, .int v18)]) dX7_isWay_146 rfl (by decide) rfl ?_
        obtain ⟨x20, ex20⟩ : ∃ y : Int32, y = v18 + (1 : Int32) := ⟨_, rfl⟩
        replace h := h x20 ex20
        refine m_iinc (v := x20) (lv2 := [(3, .int x20), (2, .int (0 : Int32)), (0, .ref (e.2.2.1 49))]) dX7_isWay_147 2 rfl ex20.symm (by decide) rfl ?_
        refine m_goto (tgt := 95) dX7_isWay_150 (by decide) ?_
        refine m_loc [2, 1, 0] rfl ?_
        exact ih (0 : Int32) x20 h
      · replace h := h.2 z
        refine m_aload_n dX7_isWay_109 0 rfl rfl ?_
        refine m_get 49 5 (o_49 e _) rfl inlX7 (by decide) q5_17 rfl dX7_isWay_110 ?_
        refine m_bipush (v := 49) dX7_isWay_113 (by decide) ?_
        refine m_iload_n dX7_isWay_115 2 rfl rfl ?_
        refine m_iadd dX7_isWay_116 ?_
        refine m_iald 53 (a_53 e _) h.1 dX7_isWay_117 ?_
        replace h := h.2
        refine m_bipush (v := -9) dX7_isWay_118 (by decide) ?_
        refine m_icmp_eq (tgt := 141) dX7_isWay_120 (by decide) (fun z => ?_) (fun z => ?_)
        · replace h := h.1 z
          refine m_iconst (v := 1) dX7_isWay_141 (by decide) ?_
          refine m_goto (tgt := 146) dX7_isWay_142 (by decide) ?_
          refine m_istore_n (lv2 := [(2, .int (1 : Int32)), (0, .ref (e.2.2.1 49)), (3, .int v18)]) dX7_isWay_146 rfl (by decide) rfl ?_
          obtain ⟨x21, ex21⟩ : ∃ y : Int32, y = v18 + (1 : Int32) := ⟨_, rfl⟩
          replace h := h x21 ex21
          refine m_iinc (v := x21) (lv2 := [(3, .int x21), (2, .int (1 : Int32)), (0, .ref (e.2.2.1 49))]) dX7_isWay_147 2 rfl ex21.symm (by decide) rfl ?_
          refine m_goto (tgt := 95) dX7_isWay_150 (by decide) ?_
          refine m_loc [2, 1, 0] rfl ?_
          exact ih (1 : Int32) x21 h
        · replace h := h.2 z
          refine m_aload_n dX7_isWay_123 0 rfl rfl ?_
          refine m_get 49 5 (o_49 e _) rfl inlX7 (by decide) q5_17 rfl dX7_isWay_124 ?_
          refine m_bipush (v := 49) dX7_isWay_127 (by decide) ?_
          refine m_iload_n dX7_isWay_129 2 rfl rfl ?_
          refine m_iadd dX7_isWay_130 ?_
          refine m_iald 53 (a_53 e _) h.1 dX7_isWay_131 ?_
          replace h := h.2
          refine m_aload_n dX7_isWay_132 0 rfl rfl ?_
          refine m_get 49 14 (o_49 e _) rfl inlX7 (by decide) q5_22 rfl dX7_isWay_133 ?_
          refine m_iload_n dX7_isWay_136 2 rfl rfl ?_
          refine m_iald 58 (a_58 e _) h.1 dX7_isWay_137 ?_
          replace h := h.2
          refine m_icmp_ne (tgt := 145) dX7_isWay_138 (by decide) (fun z => ?_) (fun z => ?_)
          · replace h := h.1 z
            refine m_iconst (v := 0) dX7_isWay_145 (by decide) ?_
            refine m_istore_n (lv2 := [(2, .int (0 : Int32)), (0, .ref (e.2.2.1 49)), (3, .int v18)]) dX7_isWay_146 rfl (by decide) rfl ?_
            obtain ⟨x22, ex22⟩ : ∃ y : Int32, y = v18 + (1 : Int32) := ⟨_, rfl⟩
            replace h := h x22 ex22
            refine m_iinc (v := x22) (lv2 := [(3, .int x22), (2, .int (0 : Int32)), (0, .ref (e.2.2.1 49))]) dX7_isWay_147 2 rfl ex22.symm (by decide) rfl ?_
            refine m_goto (tgt := 95) dX7_isWay_150 (by decide) ?_
            refine m_loc [2, 1, 0] rfl ?_
            exact ih (0 : Int32) x22 h
          · replace h := h.2 z
            refine m_iconst (v := 1) dX7_isWay_141 (by decide) ?_
            refine m_goto (tgt := 146) dX7_isWay_142 (by decide) ?_
            refine m_istore_n (lv2 := [(2, .int (1 : Int32)), (0, .ref (e.2.2.1 49)), (3, .int v18)]) dX7_isWay_146 rfl (by decide) rfl ?_
            obtain ⟨x23, ex23⟩ : ∃ y : Int32, y = v18 + (1 : Int32) := ⟨_, rfl⟩
            replace h := h x23 ex23
            refine m_iinc (v := x23) (lv2 := [(3, .int x23), (2, .int (1 : Int32)), (0, .ref (e.2.2.1 49))]) dX7_isWay_147 2 rfl ex23.symm (by decide) rfl ?_
            refine m_goto (tgt := 95) dX7_isWay_150 (by decide) ?_
            refine m_loc [2, 1, 0] rfl ?_
            exact ih (1 : Int32) x23 h
set_option maxRecDepth 100000 in
set_option maxHeartbeats 4000000 in
theorem c_X7_isWay {e : GE} {S0 : St} {p1 : Int32} {Q : Int32 → St → Prop} (h : w_X7_isWay S0 p1 Q) : CT e yX7_isWay cX7_isWay 4 (some .boolean) 2 [.ref (e.2.2.1 49), .int p1] S0 (pI Q) := by
  refine CT.of (by decide) (Nat.le_of_ble_eq_true rfl) (fun Z hR => ?_)
  rw [w_X7_isWay] at h
  show MW Z e cX7_isWay 4 RX7 2 0 [(0, .ref (e.2.2.1 49)), (1, .int p1)] [] S0
  refine m_iconst (v := 0) dX7_isWay_0 (by decide) ?_
  refine m_istore_n (lv2 := [(2, .int (0 : Int32)), (0, .ref (e.2.2.1 49)), (1, .int p1)]) dX7_isWay_1 rfl (by decide) rfl ?_
  obtain ⟨n, h⟩ := h
  refine m_loc [1, 2, 0] rfl ?_
  refine l_X7_isWay_L2 (fun S7 h => ?_) n S0 (0 : Int32) h
  refine m_iconst (v := 0) dX7_isWay_30 (by decide) ?_
  refine m_istore_n (lv2 := [(2, .int (0 : Int32)), (0, .ref (e.2.2.1 49)), (1, .int p1)]) dX7_isWay_31 rfl (by decide) rfl ?_
  obtain ⟨n, h⟩ := h
  refine m_loc [1, 2, 0] rfl ?_
  refine l_X7_isWay_L32 (fun S16 h => ?_) n S7 (0 : Int32) h
  refine m_iconst (v := 1) dX7_isWay_91 (by decide) ?_
  refine m_istore_n (lv2 := [(2, .int (1 : Int32)), (0, .ref (e.2.2.1 49))]) dX7_isWay_92 rfl (by decide) rfl ?_
  refine m_iconst (v := 0) dX7_isWay_93 (by decide) ?_
  refine m_istore_n (lv2 := [(3, .int (0 : Int32)), (2, .int (1 : Int32)), (0, .ref (e.2.2.1 49))]) dX7_isWay_94 rfl (by decide) rfl ?_
  obtain ⟨n, h⟩ := h
  refine m_loc [2, 1, 0] rfl ?_
  refine l_X7_isWay_L95 (fun v25 h => ?_) n (1 : Int32) (0 : Int32) h
  refine m_iload_n dX7_isWay_153 0 rfl rfl ?_
  exact m_zret hR h.1 ⟨_, rfl, h.2⟩ dX7_isWay_154
def X7_fits_L8 (kx : St → Int32 → Prop) : Nat → St → Int32 → Int32 → Prop
  | 0 => fun _ _ _ => False
  | n + 1 => (fun (rec : St → Int32 → Int32 → Prop) => fun (S2 : St) (v3 : Int32) (v4 : Int32) => (((S2.1 5015 0) ≤ v4 → kx S2 v3) ∧ (¬ (S2.1 5015 0) ≤ v4 → (w_X7_isWay S2 v4  (fun r5 S6 => ((r5 = 0 → ∀ x7 : Int32, x7 = v3 + (0 : Int32) → ∀ x8 : Int32, x8 = v4 + (1 : Int32) → rec S6 x7 x8) ∧ (¬ r5 = 0 → ∀ x9 : Int32, x9 = v3 + (1 : Int32) → ∀ x10 : Int32, x10 = v4 + (1 : Int32) → rec S6 x9 x10))))))) (X7_fits_L8 kx n)
def w_X7_fits (S0 : St)  (Q : Int32 → St → Prop) : Prop :=
  (w_X7_lays S0  (fun S1 => (∃ n : Nat, X7_fits_L8 (fun (S13 : St) (v14 : Int32) => Q v14 S13) n S1 (0 : Int32) (0 : Int32))))
set_option maxRecDepth 100000 in
set_option maxHeartbeats 4000000 in
theorem l_X7_fits_L8 {Z : Zt} {e : GE} {kx : St → Int32 → Prop} (hk : ∀ (S11 : St) (v12 : Int32), kx S11 v12 → MW Z e cX7_fits 3 RX7 4 38 [(1, .int v12)] [] S11) : ∀ (n : Nat) (S2 : St) (v3 : Int32) (v4 : Int32), X7_fits_L8 kx n S2 v3 v4 → MW Z e cX7_fits 3 RX7 4 8 [(0, .ref (e.2.2.1 49)), (1, .int v3), (2, .int v4)] [] S2 := by
  intro n
  induction n with
  | zero =>
    intro S2 v3 v4 h
    exact h.elim
  | succ n ih =>
    intro S2 v3 v4 h
    rw [X7_fits_L8] at h
    refine m_iload_n dX7_fits_8 2 rfl rfl ?_
    refine m_aload_n dX7_fits_9 0 rfl rfl ?_
    refine m_get 49 15 (o_49 e _) rfl inlX7 (by decide) q24_7 rfl dX7_fits_10 ?_
    refine m_icmp_ge (tgt := 38) dX7_fits_13 (by decide) (fun z => ?_) (fun z => ?_)
    · replace h := h.1 z
      refine m_loc [1] rfl ?_
      exact hk S2 v3 h
    · replace h := h.2 z
      refine m_iload_n dX7_fits_16 1 rfl rfl ?_
      refine m_aload_n dX7_fits_17 0 rfl rfl ?_
      refine m_iload_n dX7_fits_18 2 rfl rfl ?_
      refine m_callV 49 [.int v4] (c_X7_isWay h) (o_49 e _) rfl rfl q24_12 q24_13 q24_14 q1_5 q24_15 t_X7_isWay rfl (by omega) (by decide) (Nat.le_of_ble_eq_true rfl) rfl dX7_fits_19 (kI (P := MW Z e cX7_fits 3 RX7 4 22 [(0, .ref (e.2.2.1 49)), (1, .int v3), (2, .int v4)]) (fun r5 S6 h => ?_))
      refine m_if_eq (tgt := 29) dX7_fits_22 (by decide) (fun z => ?_) (fun z => ?_)
      · replace h := h.1 z
        refine m_iconst (v := 0) dX7_fits_29 (by decide) ?_
        refine m_iadd dX7_fits_30 ?_
        refine m_topi (fun x7 ex7 => ?_)
        replace h := h x7 ex7
        refine m_istore_n (lv2 := [(1, .int x7), (0, .ref (e.2.2.1 49)), (2, .int v4)]) dX7_fits_31 rfl (by decide) rfl ?_
        obtain ⟨x8, ex8⟩ : ∃ y : Int32, y = v4 + (1 : Int32) := ⟨_, rfl⟩
        replace h := h x8 ex8
        refine m_iinc (v := x8) (lv2 := [(2, .int x8), (1, .int x7), (0, .ref (e.2.2.1 49))]) dX7_fits_32 2 rfl ex8.symm (by decide) rfl ?_
        refine m_goto (tgt := 8) dX7_fits_35 (by decide) ?_
        refine m_loc [2, 1, 0] rfl ?_
        exact ih S6 x7 x8 h
      · replace h := h.2 z
        refine m_iconst (v := 1) dX7_fits_25 (by decide) ?_
        refine m_goto (tgt := 30) dX7_fits_26 (by decide) ?_
        refine m_iadd dX7_fits_30 ?_
        refine m_topi (fun x9 ex9 => ?_)
        replace h := h x9 ex9
        refine m_istore_n (lv2 := [(1, .int x9), (0, .ref (e.2.2.1 49)), (2, .int v4)]) dX7_fits_31 rfl (by decide) rfl ?_
        obtain ⟨x10, ex10⟩ : ∃ y : Int32, y = v4 + (1 : Int32) := ⟨_, rfl⟩
        replace h := h x10 ex10
        refine m_iinc (v := x10) (lv2 := [(2, .int x10), (1, .int x9), (0, .ref (e.2.2.1 49))]) dX7_fits_32 2 rfl ex10.symm (by decide) rfl ?_
        refine m_goto (tgt := 8) dX7_fits_35 (by decide) ?_
        refine m_loc [2, 1, 0] rfl ?_
        exact ih S6 x9 x10 h
set_option maxRecDepth 100000 in
set_option maxHeartbeats 4000000 in
theorem c_X7_fits {e : GE} {S0 : St}  {Q : Int32 → St → Prop} (h : w_X7_fits S0  Q) : CT e yX7_fits cX7_fits 3 (some .int) 4 [.ref (e.2.2.1 49)] S0 (pI Q) := by
  refine CT.of (by decide) (Nat.le_of_ble_eq_true rfl) (fun Z hR => ?_)
  rw [w_X7_fits] at h
  show MW Z e cX7_fits 3 RX7 4 0 [(0, .ref (e.2.2.1 49))] [] S0
  refine m_aload_n dX7_fits_0 0 rfl rfl ?_
  refine m_callV 49 [] (c_X7_lays h) (o_49 e _) rfl rfl q24_8 q24_9 q24_10 q1_5 q24_11 t_X7_lays rfl (by omega) (by decide) (Nat.le_of_ble_eq_true rfl) rfl dX7_fits_1 (kV (P := MW Z e cX7_fits 3 RX7 4 4 [(0, .ref (e.2.2.1 49))]) (fun S1 h => ?_))
  refine m_iconst (v := 0) dX7_fits_4 (by decide) ?_
  refine m_istore_n (lv2 := [(1, .int (0 : Int32)), (0, .ref (e.2.2.1 49))]) dX7_fits_5 rfl (by decide) rfl ?_
  refine m_iconst (v := 0) dX7_fits_6 (by decide) ?_
  refine m_istore_n (lv2 := [(2, .int (0 : Int32)), (1, .int (0 : Int32)), (0, .ref (e.2.2.1 49))]) dX7_fits_7 rfl (by decide) rfl ?_
  obtain ⟨n, h⟩ := h
  refine m_loc [2, 1, 0] rfl ?_
  refine l_X7_fits_L8 (fun S13 v14 h => ?_) n S1 (0 : Int32) (0 : Int32) h
  refine m_iload_n dX7_fits_38 0 rfl rfl ?_
  exact m_iret hR ⟨_, rfl, h⟩ dX7_fits_39
def w_X7_barOf (p1 : Int32) (Q : Int32 → Prop) : Prop :=
  ((¬ p1 = 0 → (¬ (10 : Int32) = 0 ∧ Q ((p1 - (1 : Int32)) / (10 : Int32)))) ∧ (p1 = 0 → Q (-4 : Int32)))
set_option maxRecDepth 100000 in
set_option maxHeartbeats 4000000 in
theorem c_X7_barOf {e : GE} {S0 : St} {p1 : Int32} {Q : Int32 → Prop} (h : w_X7_barOf p1 Q) : CT e yX7_barOf cX7_barOf 1 (some .int) 1 [.int p1] S0 (pR S0 Q) := by
  refine CT.of (by decide) (Nat.le_of_ble_eq_true rfl) (fun Z hR => ?_)
  rw [w_X7_barOf] at h
  show MW Z e cX7_barOf 1 RX7 1 0 [(0, .int p1)] [] S0
  refine m_iload_n dX7_barOf_0 0 rfl rfl ?_
  refine m_if_ne (tgt := 9) dX7_barOf_1 (by decide) (fun z => ?_) (fun z => ?_)
  · replace h := h.1 z
    refine m_iload_n dX7_barOf_9 0 rfl rfl ?_
    refine m_iconst (v := 1) dX7_barOf_10 (by decide) ?_
    refine m_isub dX7_barOf_11 ?_
    refine m_bipush (v := 10) dX7_barOf_12 (by decide) ?_
    refine m_idiv dX7_barOf_14 h.1 ?_
    replace h := h.2
    exact m_iret hR ⟨_, rfl, rfl, h⟩ dX7_barOf_15
  · replace h := h.2 z
    refine m_bipush (v := -4) dX7_barOf_4 (by decide) ?_
    refine m_goto (tgt := 15) dX7_barOf_6 (by decide) ?_
    exact m_iret hR ⟨_, rfl, rfl, h⟩ dX7_barOf_15
def X7_sure_L19 (f6 : Int32) (kx : St → Int32 → Prop) : Nat → St → Int32 → Int32 → Prop
  | 0 => fun _ _ _ => False
  | n + 1 => (fun (rec : St → Int32 → Int32 → Prop) => fun (S3 : St) (v4 : Int32) (v5 : Int32) => (((S3.1 5015 0) ≤ v5 → kx S3 v4) ∧ (¬ (S3.1 5015 0) ≤ v5 → (w_X7_isWay S3 v5  (fun r7 S8 => ((r7 = 0 → ∀ x9 : Int32, x9 = v5 + (1 : Int32) → rec S8 v4 x9) ∧ (¬ r7 = 0 → (w_X7_figureOf S8 v5 f6  (fun r10 => (w_X7_barOf r10  (fun r11 => ((v4 = (-9 : Int32) → ∀ x12 : Int32, x12 = v5 + (1 : Int32) → rec S8 r11 x12) ∧ (¬ v4 = (-9 : Int32) → ((¬ v4 = r11 → ∀ x13 : Int32, x13 = v5 + (1 : Int32) → rec S8 (-5 : Int32) x13) ∧ (v4 = r11 → ∀ x14 : Int32, x14 = v5 + (1 : Int32) → rec S8 r11 x14))))))))))))))) (X7_sure_L19 f6 kx n)
def w_X7_sure (S0 : St) (p1 : Int32) (Q : Int32 → St → Prop) : Prop :=
  (w_X7_isPerson S0 p1  (fun r1 => ((¬ r1 = 0 → (w_X7_lays S0  (fun S2 => (∃ n : Nat, X7_sure_L19 p1 (fun (S17 : St) (v18 : Int32) => Q v18 S17) n S2 (-9 : Int32) (0 : Int32))))) ∧ (r1 = 0 → Q (-1 : Int32) S0))))
set_option maxRecDepth 100000 in
set_option maxHeartbeats 4000000 in
theorem l_X7_sure_L19 {Z : Zt} {e : GE} {f6 : Int32} {kx : St → Int32 → Prop} (hk : ∀ (S15 : St) (v16 : Int32), kx S15 v16 → MW Z e cX7_sure 5 RX7 4 72 [(2, .int v16)] [] S15) : ∀ (n : Nat) (S3 : St) (v4 : Int32) (v5 : Int32), X7_sure_L19 f6 kx n S3 v4 v5 → MW Z e cX7_sure 5 RX7 4 19 [(0, .ref (e.2.2.1 49)), (1, .int f6), (2, .int v4), (3, .int v5)] [] S3 := by
  intro n
  induction n with
  | zero =>
    intro S3 v4 v5 h
    exact h.elim
  | succ n ih =>
    intro S3 v4 v5 h
    rw [X7_sure_L19] at h
    refine m_iload_n dX7_sure_19 3 rfl rfl ?_
    refine m_aload_n dX7_sure_20 0 rfl rfl ?_
    refine m_get 49 15 (o_49 e _) rfl inlX7 (by decide) q24_7 rfl dX7_sure_21 ?_
    refine m_icmp_ge (tgt := 72) dX7_sure_24 (by decide) (fun z => ?_) (fun z => ?_)
    · replace h := h.1 z
      refine m_loc [2] rfl ?_
      exact hk S3 v4 h
    · replace h := h.2 z
      refine m_aload_n dX7_sure_27 0 rfl rfl ?_
      refine m_iload_n dX7_sure_28 3 rfl rfl ?_
      refine m_callV 49 [.int v5] (c_X7_isWay h) (o_49 e _) rfl rfl q24_12 q24_13 q24_14 q1_5 q24_15 t_X7_isWay rfl (by omega) (by decide) (Nat.le_of_ble_eq_true rfl) rfl dX7_sure_29 (kI (P := MW Z e cX7_sure 5 RX7 4 32 [(0, .ref (e.2.2.1 49)), (1, .int f6), (2, .int v4), (3, .int v5)]) (fun r7 S8 h => ?_))
      refine m_if_eq (tgt := 66) dX7_sure_32 (by decide) (fun z => ?_) (fun z => ?_)
      · replace h := h.1 z
        obtain ⟨x9, ex9⟩ : ∃ y : Int32, y = v5 + (1 : Int32) := ⟨_, rfl⟩
        replace h := h x9 ex9
        refine m_iinc (v := x9) (lv2 := [(3, .int x9), (0, .ref (e.2.2.1 49)), (1, .int f6), (2, .int v4)]) dX7_sure_66 3 rfl ex9.symm (by decide) rfl ?_
        refine m_goto (tgt := 19) dX7_sure_69 (by decide) ?_
        refine m_loc [1, 2, 3, 0] rfl ?_
        exact ih S8 v4 x9 h
      · replace h := h.2 z
        refine m_aload_n dX7_sure_35 0 rfl rfl ?_
        refine m_iload_n dX7_sure_36 3 rfl rfl ?_
        refine m_iload_n dX7_sure_37 1 rfl rfl ?_
        refine m_callV 49 [.int v5, .int f6] (c_X7_figureOf h) (o_49 e _) rfl rfl q24_16 q24_17 q24_18 q1_5 q24_19 t_X7_figureOf rfl (by omega) (by decide) (Nat.le_of_ble_eq_true rfl) rfl dX7_sure_38 (kR (P := MW Z e cX7_sure 5 RX7 4 41 [(0, .ref (e.2.2.1 49)), (1, .int f6), (2, .int v4), (3, .int v5)]) (fun r10 h => ?_))
        refine m_callS [.int r10] (c_X7_barOf h) q25_13 q25_14 q1_5 q25_15 t_X7_barOf rfl (by omega) (by decide) (Nat.le_of_ble_eq_true rfl) rfl dX7_sure_41 (kR (P := MW Z e cX7_sure 5 RX7 4 44 [(0, .ref (e.2.2.1 49)), (1, .int f6), (2, .int v4), (3, .int v5)]) (fun r11 h => ?_))
        refine m_istore (lv2 := [(4, .int r11), (0, .ref (e.2.2.1 49)), (1, .int f6), (2, .int v4), (3, .int v5)]) dX7_sure_44 (by decide) rfl ?_
        refine m_iload_n dX7_sure_46 3 rfl rfl ?_
        refine m_bipush (v := -9) dX7_sure_47 (by decide) ?_
        refine m_icmp_eq (tgt := 58) dX7_sure_49 (by decide) (fun z => ?_) (fun z => ?_)
        · replace h := h.1 z
          refine m_iload dX7_sure_58 0 rfl ?_
          refine m_goto (tgt := 65) dX7_sure_60 (by decide) ?_
          refine m_istore_n (lv2 := [(2, .int r11), (4, .int r11), (0, .ref (e.2.2.1 49)), (1, .int f6), (3, .int v5)]) dX7_sure_65 rfl (by decide) rfl ?_
          obtain ⟨x12, ex12⟩ : ∃ y : Int32, y = v5 + (1 : Int32) := ⟨_, rfl⟩
          replace h := h x12 ex12
          refine m_iinc (v := x12) (lv2 := [(3, .int x12), (2, .int r11), (4, .int r11), (0, .ref (e.2.2.1 49)), (1, .int f6)]) dX7_sure_66 4 rfl ex12.symm (by decide) rfl ?_
          refine m_goto (tgt := 19) dX7_sure_69 (by decide) ?_
          refine m_loc [3, 4, 1, 0] rfl ?_
          exact ih S8 r11 x12 h
        · replace h := h.2 z
          refine m_iload_n dX7_sure_52 3 rfl rfl ?_
          refine m_iload dX7_sure_53 0 rfl ?_
          refine m_icmp_ne (tgt := 63) dX7_sure_55 (by decide) (fun z => ?_) (fun z => ?_)
          · replace h := h.1 z
            refine m_bipush (v := -5) dX7_sure_63 (by decide) ?_
            refine m_istore_n (lv2 := [(2, .int (-5 : Int32)), (4, .int r11), (0, .ref (e.2.2.1 49)), (1, .int f6), (3, .int v5)]) dX7_sure_65 rfl (by decide) rfl ?_
            obtain ⟨x13, ex13⟩ : ∃ y : Int32, y = v5 + (1 : Int32) := ⟨_, rfl⟩
            replace h := h x13 ex13
            refine m_iinc (v := x13) (lv2 := [(3, .int x13), (2, .int (-5 : Int32)), (4, .int r11), (0, .ref (e.2.2.1 49)), (1, .int f6)]) dX7_sure_66 4 rfl ex13.symm (by decide) rfl ?_
            refine m_goto (tgt := 19) dX7_sure_69 (by decide) ?_
            refine m_loc [3, 4, 1, 0] rfl ?_
            exact ih S8 (-5 : Int32) x13 h
          · replace h := h.2 z
            refine m_iload dX7_sure_58 0 rfl ?_
            refine m_goto (tgt := 65) dX7_sure_60 (by decide) ?_
            refine m_istore_n (lv2 := [(2, .int r11), (4, .int r11), (0, .ref (e.2.2.1 49)), (1, .int f6), (3, .int v5)]) dX7_sure_65 rfl (by decide) rfl ?_
            obtain ⟨x14, ex14⟩ : ∃ y : Int32, y = v5 + (1 : Int32) := ⟨_, rfl⟩
            replace h := h x14 ex14
            refine m_iinc (v := x14) (lv2 := [(3, .int x14), (2, .int r11), (4, .int r11), (0, .ref (e.2.2.1 49)), (1, .int f6)]) dX7_sure_66 4 rfl ex14.symm (by decide) rfl ?_
            refine m_goto (tgt := 19) dX7_sure_69 (by decide) ?_
            refine m_loc [3, 4, 1, 0] rfl ?_
            exact ih S8 r11 x14 h
set_option maxRecDepth 100000 in
set_option maxHeartbeats 4000000 in
theorem c_X7_sure {e : GE} {S0 : St} {p1 : Int32} {Q : Int32 → St → Prop} (h : w_X7_sure S0 p1 Q) : CT e yX7_sure cX7_sure 5 (some .int) 4 [.ref (e.2.2.1 49), .int p1] S0 (pI Q) := by
  refine CT.of (by decide) (Nat.le_of_ble_eq_true rfl) (fun Z hR => ?_)
  rw [w_X7_sure] at h
  show MW Z e cX7_sure 5 RX7 4 0 [(0, .ref (e.2.2.1 49)), (1, .int p1)] [] S0
  refine m_aload_n dX7_sure_0 0 rfl rfl ?_
  refine m_iload_n dX7_sure_1 1 rfl rfl ?_
  refine m_callV 49 [.int p1] (c_X7_isPerson h) (o_49 e _) rfl rfl q16_21 q16_22 q16_23 q1_5 q17_0 t_X7_isPerson rfl (by omega) (by decide) (Nat.le_of_ble_eq_true rfl) rfl dX7_sure_2 (kR (P := MW Z e cX7_sure 5 RX7 4 5 [(0, .ref (e.2.2.1 49)), (1, .int p1)]) (fun r1 h => ?_))
  refine m_if_ne (tgt := 10) dX7_sure_5 (by decide) (fun z => ?_) (fun z => ?_)
  · replace h := h.1 z
    refine m_aload_n dX7_sure_10 0 rfl rfl ?_
    refine m_callV 49 [] (c_X7_lays h) (o_49 e _) rfl rfl q24_8 q24_9 q24_10 q1_5 q24_11 t_X7_lays rfl (by omega) (by decide) (Nat.le_of_ble_eq_true rfl) rfl dX7_sure_11 (kV (P := MW Z e cX7_sure 5 RX7 4 14 [(0, .ref (e.2.2.1 49)), (1, .int p1)]) (fun S2 h => ?_))
    refine m_bipush (v := -9) dX7_sure_14 (by decide) ?_
    refine m_istore_n (lv2 := [(2, .int (-9 : Int32)), (0, .ref (e.2.2.1 49)), (1, .int p1)]) dX7_sure_16 rfl (by decide) rfl ?_
    refine m_iconst (v := 0) dX7_sure_17 (by decide) ?_
    refine m_istore_n (lv2 := [(3, .int (0 : Int32)), (2, .int (-9 : Int32)), (0, .ref (e.2.2.1 49)), (1, .int p1)]) dX7_sure_18 rfl (by decide) rfl ?_
    obtain ⟨n, h⟩ := h
    refine m_loc [2, 3, 1, 0] rfl ?_
    refine l_X7_sure_L19 (fun S17 v18 h => ?_) n S2 (-9 : Int32) (0 : Int32) h
    refine m_iload_n dX7_sure_72 0 rfl rfl ?_
    exact m_iret hR ⟨_, rfl, h⟩ dX7_sure_73
  · replace h := h.2 z
    refine m_iconst (v := -1) dX7_sure_8 (by decide) ?_
    exact m_iret hR ⟨_, rfl, h⟩ dX7_sure_9
def X7_odds_L46 (f9 : Int32) (f10 : Int32) (f11 : Int32) (kx : St → Int32 → Int32 → Prop) : Nat → St → Int32 → Int32 → Int32 → Prop
  | 0 => fun _ _ _ _ => False
  | n + 1 => (fun (rec : St → Int32 → Int32 → Int32 → Prop) => fun (S5 : St) (v6 : Int32) (v7 : Int32) (v8 : Int32) => (((S5.1 5015 0) ≤ v8 → kx S5 v6 v7) ∧ (¬ (S5.1 5015 0) ≤ v8 → (w_X7_isWay S5 v8  (fun r12 S13 => ((r12 = 0 → ∀ x14 : Int32, x14 = v8 + (1 : Int32) → rec S13 v6 v7 x14) ∧ (¬ r12 = 0 → ∀ x15 : Int32, x15 = v6 + (1 : Int32) → (w_X7_figureOf S13 v8 f9  (fun r16 => (w_X7_barOf r16  (fun r17 => ((¬ r17 = f10 → ∀ x18 : Int32, x18 = v7 + (0 : Int32) → ∀ x19 : Int32, x19 = v8 + (1 : Int32) → rec S13 x15 x18 x19) ∧ (r17 = f10 → ∀ x20 : Int32, x20 = v7 + (1 : Int32) → ∀ x21 : Int32, x21 = v8 + (1 : Int32) → rec S13 x15 x20 x21))))))))))))) (X7_odds_L46 f9 f10 f11 kx n)
def X7_odds_L105 (S33 : St) (f30 : Int32) (f31 : Int32) (f32 : Int32) (kx : Int32 → Prop) : Nat → Int32 → Int32 → Prop
  | 0 => fun _ _ => False
  | n + 1 => (fun (rec : Int32 → Int32 → Prop) => fun (v28 : Int32) (v29 : Int32) => ((v29 ≤ 0 → kx v28) ∧ (¬ v29 ≤ 0 → (¬ v29 = 0 ∧ ∀ x34 : Int32, x34 = v28 - v28 / v29 * v29 → rec v29 x34)))) (X7_odds_L105 S33 f30 f31 f32 kx n)
def w_X7_odds (S0 : St) (p1 : Int32) (p2 : Int32) (p3 : Int32) (Q : Int32 → St → Prop) : Prop :=
  (w_X7_isPerson S0 p1  (fun r1 => ((r1 = 0 → Q (-1 : Int32) S0) ∧ (¬ r1 = 0 → (∀ J2 : Prop, J2 = ((w_X7_in p3 (0 : Int32) (1 : Int32)  (fun r3 => ((¬ r3 = 0 → (w_X7_lays S0  (fun S4 => (∃ n : Nat, X7_odds_L46 p1 p2 p3 (fun (S25 : St) (v26 : Int32) (v27 : Int32) => (∃ n : Nat, X7_odds_L105 S25 p3 v26 v27 (fun (v36 : Int32) => ((¬ v27 = 0 → ((¬ p3 = 0 → (¬ v36 = 0 ∧ Q (v26 / v36) S25)) ∧ (p3 = 0 → (¬ v36 = 0 ∧ Q (v27 / v36) S25)))) ∧ (v27 = 0 → Q p3 S25))) n v27 v26)) n S4 (0 : Int32) (0 : Int32) (0 : Int32))))) ∧ (r3 = 0 → Q (-1 : Int32) S0))))) → ((p2 = (-4 : Int32) → J2) ∧ (¬ p2 = (-4 : Int32) → (w_X7_isBar S0 p2  (fun r37 => ((r37 = 0 → Q (-1 : Int32) S0) ∧ (¬ r37 = 0 → J2)))))))))))
set_option maxRecDepth 100000 in
set_option maxHeartbeats 4000000 in
theorem l_X7_odds_L46 {Z : Zt} {e : GE} {f9 : Int32} {f10 : Int32} {f11 : Int32} {kx : St → Int32 → Int32 → Prop} (hk : ∀ (S22 : St) (v23 : Int32) (v24 : Int32), kx S22 v23 v24 → MW Z e cX7_odds 9 RX7 4 97 [(3, .int f11), (4, .int v23), (5, .int v24)] [] S22) : ∀ (n : Nat) (S5 : St) (v6 : Int32) (v7 : Int32) (v8 : Int32), X7_odds_L46 f9 f10 f11 kx n S5 v6 v7 v8 → MW Z e cX7_odds 9 RX7 4 46 [(0, .ref (e.2.2.1 49)), (1, .int f9), (2, .int f10), (3, .int f11), (4, .int v6), (5, .int v7), (6, .int v8)] [] S5 := by
  intro n
  induction n with
  | zero =>
    intro S5 v6 v7 v8 h
    exact h.elim
  | succ n ih =>
    intro S5 v6 v7 v8 h
    rw [X7_odds_L46] at h
    refine m_iload dX7_odds_46 6 rfl ?_
    refine m_aload_n dX7_odds_48 0 rfl rfl ?_
    refine m_get 49 15 (o_49 e _) rfl inlX7 (by decide) q24_7 rfl dX7_odds_49 ?_
    refine m_icmp_ge (tgt := 97) dX7_odds_52 (by decide) (fun z => ?_) (fun z => ?_)
    · replace h := h.1 z
      refine m_loc [3, 4, 5] rfl ?_
      exact hk S5 v6 v7 h
    · replace h := h.2 z
      refine m_aload_n dX7_odds_55 0 rfl rfl ?_
      refine m_iload dX7_odds_56 6 rfl ?_
      refine m_callV 49 [.int v8] (c_X7_isWay h) (o_49 e _) rfl rfl q24_12 q24_13 q24_14 q1_5 q24_15 t_X7_isWay rfl (by omega) (by decide) (Nat.le_of_ble_eq_true rfl) rfl dX7_odds_58 (kI (P := MW Z e cX7_odds 9 RX7 4 61 [(0, .ref (e.2.2.1 49)), (1, .int f9), (2, .int f10), (3, .int f11), (4, .int v6), (5, .int v7), (6, .int v8)]) (fun r12 S13 h => ?_))
      refine m_if_eq (tgt := 91) dX7_odds_61 (by decide) (fun z => ?_) (fun z => ?_)
      · replace h := h.1 z
        obtain ⟨x14, ex14⟩ : ∃ y : Int32, y = v8 + (1 : Int32) := ⟨_, rfl⟩
        replace h := h x14 ex14
        refine m_iinc (v := x14) (lv2 := [(6, .int x14), (0, .ref (e.2.2.1 49)), (1, .int f9), (2, .int f10), (3, .int f11), (4, .int v6), (5, .int v7)]) dX7_odds_91 6 rfl ex14.symm (by decide) rfl ?_
        refine m_goto (tgt := 46) dX7_odds_94 (by decide) ?_
        refine m_loc [1, 2, 3, 4, 5, 6, 0] rfl ?_
        exact ih S13 v6 v7 x14 h
      · replace h := h.2 z
        obtain ⟨x15, ex15⟩ : ∃ y : Int32, y = v6 + (1 : Int32) := ⟨_, rfl⟩
        replace h := h x15 ex15
        refine m_iinc (v := x15) (lv2 := [(4, .int x15), (0, .ref (e.2.2.1 49)), (1, .int f9), (2, .int f10), (3, .int f11), (5, .int v7), (6, .int v8)]) dX7_odds_64 4 rfl ex15.symm (by decide) rfl ?_
        refine m_iload dX7_odds_67 5 rfl ?_
        refine m_aload_n dX7_odds_69 1 rfl rfl ?_
        refine m_iload dX7_odds_70 6 rfl ?_
        refine m_iload_n dX7_odds_72 2 rfl rfl ?_
        refine m_callV 49 [.int v8, .int f9] (c_X7_figureOf h) (o_49 e _) rfl rfl q24_16 q24_17 q24_18 q1_5 q24_19 t_X7_figureOf rfl (by omega) (by decide) (Nat.le_of_ble_eq_true rfl) rfl dX7_odds_73 (kR (P := MW Z e cX7_odds 9 RX7 4 76 [(4, .int x15), (0, .ref (e.2.2.1 49)), (1, .int f9), (2, .int f10), (3, .int f11), (5, .int v7), (6, .int v8)]) (fun r16 h => ?_))
        refine m_callS [.int r16] (c_X7_barOf h) q25_13 q25_14 q1_5 q25_15 t_X7_barOf rfl (by omega) (by decide) (Nat.le_of_ble_eq_true rfl) rfl dX7_odds_76 (kR (P := MW Z e cX7_odds 9 RX7 4 79 [(4, .int x15), (0, .ref (e.2.2.1 49)), (1, .int f9), (2, .int f10), (3, .int f11), (5, .int v7), (6, .int v8)]) (fun r17 h => ?_))
        refine m_iload_n dX7_odds_79 3 rfl rfl ?_
        refine m_icmp_ne (tgt := 87) dX7_odds_80 (by decide) (fun z => ?_) (fun z => ?_)
        · replace h := h.1 z
          refine m_iconst (v := 0) dX7_odds_87 (by decide) ?_
          refine m_iadd dX7_odds_88 ?_
          refine m_topi (fun x18 ex18 => ?_)
          replace h := h x18 ex18
          refine m_istore (lv2 := [(5, .int x18), (4, .int x15), (0, .ref (e.2.2.1 49)), (1, .int f9), (2, .int f10), (3, .int f11), (6, .int v8)]) dX7_odds_89 (by decide) rfl ?_
          obtain ⟨x19, ex19⟩ : ∃ y : Int32, y = v8 + (1 : Int32) := ⟨_, rfl⟩
          replace h := h x19 ex19
          refine m_iinc (v := x19) (lv2 := [(6, .int x19), (5, .int x18), (4, .int x15), (0, .ref (e.2.2.1 49)), (1, .int f9), (2, .int f10), (3, .int f11)]) dX7_odds_91 6 rfl ex19.symm (by decide) rfl ?_
          refine m_goto (tgt := 46) dX7_odds_94 (by decide) ?_
          refine m_loc [3, 4, 5, 6, 2, 1, 0] rfl ?_
          exact ih S13 x15 x18 x19 h
        · replace h := h.2 z
          refine m_iconst (v := 1) dX7_odds_83 (by decide) ?_
          refine m_goto (tgt := 88) dX7_odds_84 (by decide) ?_
          refine m_iadd dX7_odds_88 ?_
          refine m_topi (fun x20 ex20 => ?_)
          replace h := h x20 ex20
          refine m_istore (lv2 := [(5, .int x20), (4, .int x15), (0, .ref (e.2.2.1 49)), (1, .int f9), (2, .int f10), (3, .int f11), (6, .int v8)]) dX7_odds_89 (by decide) rfl ?_
          obtain ⟨x21, ex21⟩ : ∃ y : Int32, y = v8 + (1 : Int32) := ⟨_, rfl⟩
          replace h := h x21 ex21
          refine m_iinc (v := x21) (lv2 := [(6, .int x21), (5, .int x20), (4, .int x15), (0, .ref (e.2.2.1 49)), (1, .int f9), (2, .int f10), (3, .int f11)]) dX7_odds_91 6 rfl ex21.symm (by decide) rfl ?_
          refine m_goto (tgt := 46) dX7_odds_94 (by decide) ?_
          refine m_loc [3, 4, 5, 6, 2, 1, 0] rfl ?_
          exact ih S13 x15 x20 x21 h
set_option maxRecDepth 100000 in
set_option maxHeartbeats 4000000 in
theorem l_X7_odds_L105 {Z : Zt} {e : GE} {S33 : St} {f30 : Int32} {f31 : Int32} {f32 : Int32} {kx : Int32 → Prop} (hk : ∀ (v35 : Int32), kx v35 → MW Z e cX7_odds 9 RX7 4 128 [(3, .int f30), (4, .int f31), (5, .int f32), (6, .int v35)] [] S33) : ∀ (n : Nat) (v28 : Int32) (v29 : Int32), X7_odds_L105 S33 f30 f31 f32 kx n v28 v29 → MW Z e cX7_odds 9 RX7 4 105 [(3, .int f30), (4, .int f31), (5, .int f32), (6, .int v28), (7, .int v29)] [] S33 := by
  intro n
  induction n with
  | zero =>
    intro v28 v29 h
    exact h.elim
  | succ n ih =>
    intro v28 v29 h
    rw [X7_odds_L105] at h
    refine m_iload dX7_odds_105 4 rfl ?_
    refine m_if_le (tgt := 128) dX7_odds_107 (by decide) (fun z => ?_) (fun z => ?_)
    · replace h := h.1 z
      refine m_loc [0, 1, 2, 3] rfl ?_
      exact hk v28 h
    · replace h := h.2 z
      refine m_iload dX7_odds_110 3 rfl ?_
      refine m_iload dX7_odds_112 4 rfl ?_
      refine m_irem dX7_odds_114 h.1 ?_
      replace h := h.2
      refine m_topi (fun x34 ex34 => ?_)
      replace h := h x34 ex34
      refine m_istore (lv2 := [(8, .int x34), (3, .int f30), (4, .int f31), (5, .int f32), (6, .int v28), (7, .int v29)]) dX7_odds_115 (by decide) rfl ?_
      refine m_iload dX7_odds_117 5 rfl ?_
      refine m_istore (lv2 := [(6, .int v29), (8, .int x34), (3, .int f30), (4, .int f31), (5, .int f32), (7, .int v29)]) dX7_odds_119 (by decide) rfl ?_
      refine m_iload dX7_odds_121 1 rfl ?_
      refine m_istore (lv2 := [(7, .int x34), (6, .int v29), (8, .int x34), (3, .int f30), (4, .int f31), (5, .int f32)]) dX7_odds_123 (by decide) rfl ?_
      refine m_goto (tgt := 105) dX7_odds_125 (by decide) ?_
      refine m_loc [3, 4, 5, 1, 0] rfl ?_
      exact ih v29 x34 h
set_option maxRecDepth 100000 in
set_option maxHeartbeats 4000000 in
theorem c_X7_odds {e : GE} {S0 : St} {p1 : Int32} {p2 : Int32} {p3 : Int32} {Q : Int32 → St → Prop} (h : w_X7_odds S0 p1 p2 p3 Q) : CT e yX7_odds cX7_odds 9 (some .int) 4 [.ref (e.2.2.1 49), .int p1, .int p2, .int p3] S0 (pI Q) := by
  refine CT.of (by decide) (Nat.le_of_ble_eq_true rfl) (fun Z hR => ?_)
  rw [w_X7_odds] at h
  show MW Z e cX7_odds 9 RX7 4 0 [(0, .ref (e.2.2.1 49)), (1, .int p1), (2, .int p2), (3, .int p3)] [] S0
  refine m_aload_n dX7_odds_0 0 rfl rfl ?_
  refine m_iload_n dX7_odds_1 1 rfl rfl ?_
  refine m_callV 49 [.int p1] (c_X7_isPerson h) (o_49 e _) rfl rfl q16_21 q16_22 q16_23 q1_5 q17_0 t_X7_isPerson rfl (by omega) (by decide) (Nat.le_of_ble_eq_true rfl) rfl dX7_odds_2 (kR (P := MW Z e cX7_odds 9 RX7 4 5 [(0, .ref (e.2.2.1 49)), (1, .int p1), (2, .int p2), (3, .int p3)]) (fun r1 h => ?_))
  refine m_if_eq (tgt := 31) dX7_odds_5 (by decide) (fun z => ?_) (fun z => ?_)
  · replace h := h.1 z
    refine m_iconst (v := -1) dX7_odds_31 (by decide) ?_
    exact m_iret hR ⟨_, rfl, h⟩ dX7_odds_32
  · replace h := h.2 z
    refine m_iload_n dX7_odds_8 2 rfl rfl ?_
    refine m_bipush (v := -4) dX7_odds_9 (by decide) ?_
    obtain ⟨J2, eJ2, h⟩ := jn h
    have kJ2 : J2 → MW Z e cX7_odds 9 RX7 4 22 [(0, .ref (e.2.2.1 49)), (1, .int p1), (2, .int p2), (3, .int p3)] [] S0 := by
      intro  h
      rw [eJ2] at h
      refine m_iload_n dX7_odds_22 3 rfl rfl ?_
      refine m_iconst (v := 0) dX7_odds_23 (by decide) ?_
      refine m_iconst (v := 1) dX7_odds_24 (by decide) ?_
      refine m_callS [.int p3, .int (0 : Int32), .int (1 : Int32)] (c_X7_in h) q6_8 q6_9 q1_5 q6_10 t_X7_in rfl (by omega) (by decide) (Nat.le_of_ble_eq_true rfl) rfl dX7_odds_25 (kR (P := MW Z e cX7_odds 9 RX7 4 28 [(0, .ref (e.2.2.1 49)), (1, .int p1), (2, .int p2), (3, .int p3)]) (fun r3 h => ?_))
      refine m_if_ne (tgt := 33) dX7_odds_28 (by decide) (fun z => ?_) (fun z => ?_)
      · replace h := h.1 z
        refine m_aload_n dX7_odds_33 0 rfl rfl ?_
        refine m_callV 49 [] (c_X7_lays h) (o_49 e _) rfl rfl q24_8 q24_9 q24_10 q1_5 q24_11 t_X7_lays rfl (by omega) (by decide) (Nat.le_of_ble_eq_true rfl) rfl dX7_odds_34 (kV (P := MW Z e cX7_odds 9 RX7 4 37 [(0, .ref (e.2.2.1 49)), (1, .int p1), (2, .int p2), (3, .int p3)]) (fun S4 h => ?_))
        refine m_iconst (v := 0) dX7_odds_37 (by decide) ?_
        refine m_istore (lv2 := [(4, .int (0 : Int32)), (0, .ref (e.2.2.1 49)), (1, .int p1), (2, .int p2), (3, .int p3)]) dX7_odds_38 (by decide) rfl ?_
        refine m_iconst (v := 0) dX7_odds_40 (by decide) ?_
        refine m_istore (lv2 := [(5, .int (0 : Int32)), (4, .int (0 : Int32)), (0, .ref (e.2.2.1 49)), (1, .int p1), (2, .int p2), (3, .int p3)]) dX7_odds_41 (by decide) rfl ?_
        refine m_iconst (v := 0) dX7_odds_43 (by decide) ?_
        refine m_istore (lv2 := [(6, .int (0 : Int32)), (5, .int (0 : Int32)), (4, .int (0 : Int32)), (0, .ref (e.2.2.1 49)), (1, .int p1), (2, .int p2), (3, .int p3)]) dX7_odds_44 (by decide) rfl ?_
        obtain ⟨n, h⟩ := h
        refine m_loc [3, 4, 5, 6, 2, 1, 0] rfl ?_
        refine l_X7_odds_L46 (fun S25 v26 v27 h => ?_) n S4 (0 : Int32) (0 : Int32) (0 : Int32) h
        refine m_iload dX7_odds_97 2 rfl ?_
        refine m_istore (lv2 := [(6, .int v27), (3, .int p3), (4, .int v26), (5, .int v27)]) dX7_odds_99 (by decide) rfl ?_
        refine m_iload dX7_odds_101 2 rfl ?_
        refine m_istore (lv2 := [(7, .int v26), (6, .int v27), (3, .int p3), (4, .int v26), (5, .int v27)]) dX7_odds_103 (by decide) rfl ?_
        obtain ⟨n, h⟩ := h
        refine m_loc [2, 3, 4, 1, 0] rfl ?_
        refine l_X7_odds_L105 (fun v36 h => ?_) n v27 v26 h
        refine m_iload dX7_odds_128 2 rfl ?_
        refine m_if_ne (tgt := 137) dX7_odds_130 (by decide) (fun z => ?_) (fun z => ?_)
        · replace h := h.1 z
          refine m_iload_n dX7_odds_137 0 rfl rfl ?_
          refine m_if_ne (tgt := 149) dX7_odds_138 (by decide) (fun z => ?_) (fun z => ?_)
          · replace h := h.1 z
            refine m_iload dX7_odds_149 1 rfl ?_
            refine m_iload dX7_odds_151 3 rfl ?_
            refine m_idiv dX7_odds_153 h.1 ?_
            replace h := h.2
            exact m_iret hR ⟨_, rfl, h⟩ dX7_odds_154
          · replace h := h.2 z
            refine m_iload dX7_odds_141 2 rfl ?_
            refine m_iload dX7_odds_143 3 rfl ?_
            refine m_idiv dX7_odds_145 h.1 ?_
            replace h := h.2
            refine m_goto (tgt := 154) dX7_odds_146 (by decide) ?_
            exact m_iret hR ⟨_, rfl, h⟩ dX7_odds_154
        · replace h := h.2 z
          refine m_iload_n dX7_odds_133 0 rfl rfl ?_
          refine m_goto (tgt := 154) dX7_odds_134 (by decide) ?_
          exact m_iret hR ⟨_, rfl, h⟩ dX7_odds_154
      · replace h := h.2 z
        refine m_iconst (v := -1) dX7_odds_31 (by decide) ?_
        exact m_iret hR ⟨_, rfl, h⟩ dX7_odds_32
    refine m_icmp_eq (tgt := 22) dX7_odds_11 (by decide) (fun z => ?_) (fun z => ?_)
    · replace h := h.1 z
      exact kJ2  h
    · replace h := h.2 z
      refine m_aload_n dX7_odds_14 0 rfl rfl ?_
      refine m_iload_n dX7_odds_15 2 rfl rfl ?_
      refine m_callV 49 [.int p2] (c_X7_isBar h) (o_49 e _) rfl rfl q16_4 q16_5 q16_6 q1_5 q16_7 t_X7_isBar rfl (by omega) (by decide) (Nat.le_of_ble_eq_true rfl) rfl dX7_odds_16 (kR (P := MW Z e cX7_odds 9 RX7 4 19 [(0, .ref (e.2.2.1 49)), (1, .int p1), (2, .int p2), (3, .int p3)]) (fun r37 h => ?_))
      refine m_if_eq (tgt := 31) dX7_odds_19 (by decide) (fun z => ?_) (fun z => ?_)
      · replace h := h.1 z
        refine m_iconst (v := -1) dX7_odds_31 (by decide) ?_
        exact m_iret hR ⟨_, rfl, h⟩ dX7_odds_32
      · replace h := h.2 z
        exact kJ2  h
def w_X7_isClaim (S0 : St) (p1 : Int32) (p2 : Int32) (p3 : Int32) (Q : Int32 → Prop) : Prop :=
  (w_X7_isPerson S0 p1  (fun r1 => ((r1 = 0 → Q (0 : Int32)) ∧ (¬ r1 = 0 → (w_X7_isBar S0 p2  (fun r2 => ((r2 = 0 → Q (0 : Int32)) ∧ (¬ r2 = 0 → (w_X7_in p3 (1 : Int32) (10 : Int32)  (fun r3 => ((r3 = 0 → Q (0 : Int32)) ∧ (¬ r3 = 0 → Q (1 : Int32)))))))))))))
set_option maxRecDepth 100000 in
set_option maxHeartbeats 4000000 in
theorem c_X7_isClaim {e : GE} {S0 : St} {p1 : Int32} {p2 : Int32} {p3 : Int32} {Q : Int32 → Prop} (h : w_X7_isClaim S0 p1 p2 p3 Q) : CT e yX7_isClaim cX7_isClaim 4 (some .boolean) 3 [.ref (e.2.2.1 49), .int p1, .int p2, .int p3] S0 (pR S0 Q) := by
  refine CT.of (by decide) (Nat.le_of_ble_eq_true rfl) (fun Z hR => ?_)
  rw [w_X7_isClaim] at h
  show MW Z e cX7_isClaim 4 RX7 3 0 [(0, .ref (e.2.2.1 49)), (1, .int p1), (2, .int p2), (3, .int p3)] [] S0
  refine m_aload_n dX7_isClaim_0 0 rfl rfl ?_
  refine m_iload_n dX7_isClaim_1 1 rfl rfl ?_
  refine m_callV 49 [.int p1] (c_X7_isPerson h) (o_49 e _) rfl rfl q16_21 q16_22 q16_23 q1_5 q17_0 t_X7_isPerson rfl (by omega) (by decide) (Nat.le_of_ble_eq_true rfl) rfl dX7_isClaim_2 (kR (P := MW Z e cX7_isClaim 4 RX7 3 5 [(0, .ref (e.2.2.1 49)), (1, .int p1), (2, .int p2), (3, .int p3)]) (fun r1 h => ?_))
  refine m_if_eq (tgt := 30) dX7_isClaim_5 (by decide) (fun z => ?_) (fun z => ?_)
  · replace h := h.1 z
    refine m_iconst (v := 0) dX7_isClaim_30 (by decide) ?_
    exact m_zret hR rfl ⟨_, rfl, rfl, h⟩ dX7_isClaim_31
  · replace h := h.2 z
    refine m_aload_n dX7_isClaim_8 0 rfl rfl ?_
    refine m_iload_n dX7_isClaim_9 2 rfl rfl ?_
    refine m_callV 49 [.int p2] (c_X7_isBar h) (o_49 e _) rfl rfl q16_4 q16_5 q16_6 q1_5 q16_7 t_X7_isBar rfl (by omega) (by decide) (Nat.le_of_ble_eq_true rfl) rfl dX7_isClaim_10 (kR (P := MW Z e cX7_isClaim 4 RX7 3 13 [(0, .ref (e.2.2.1 49)), (1, .int p1), (2, .int p2), (3, .int p3)]) (fun r2 h => ?_))
    refine m_if_eq (tgt := 30) dX7_isClaim_13 (by decide) (fun z => ?_) (fun z => ?_)
    · replace h := h.1 z
      refine m_iconst (v := 0) dX7_isClaim_30 (by decide) ?_
      exact m_zret hR rfl ⟨_, rfl, rfl, h⟩ dX7_isClaim_31
    · replace h := h.2 z
      refine m_iload_n dX7_isClaim_16 3 rfl rfl ?_
      refine m_iconst (v := 1) dX7_isClaim_17 (by decide) ?_
      refine m_bipush (v := 10) dX7_isClaim_18 (by decide) ?_
      refine m_callS [.int p3, .int (1 : Int32), .int (10 : Int32)] (c_X7_in h) q6_8 q6_9 q1_5 q6_10 t_X7_in rfl (by omega) (by decide) (Nat.le_of_ble_eq_true rfl) rfl dX7_isClaim_20 (kR (P := MW Z e cX7_isClaim 4 RX7 3 23 [(0, .ref (e.2.2.1 49)), (1, .int p1), (2, .int p2), (3, .int p3)]) (fun r3 h => ?_))
      refine m_if_eq (tgt := 30) dX7_isClaim_23 (by decide) (fun z => ?_) (fun z => ?_)
      · replace h := h.1 z
        refine m_iconst (v := 0) dX7_isClaim_30 (by decide) ?_
        exact m_zret hR rfl ⟨_, rfl, rfl, h⟩ dX7_isClaim_31
      · replace h := h.2 z
        refine m_iconst (v := 1) dX7_isClaim_26 (by decide) ?_
        refine m_goto (tgt := 31) dX7_isClaim_27 (by decide) ?_
        exact m_zret hR rfl ⟨_, rfl, rfl, h⟩ dX7_isClaim_31
def X7_claims_L9 (f5 : Int32) (f6 : Int32) (kx : St → Int32 → Prop) : Nat → St → Int32 → Int32 → Prop
  | 0 => fun _ _ _ => False
  | n + 1 => (fun (rec : St → Int32 → Int32 → Prop) => fun (S2 : St) (v3 : Int32) (v4 : Int32) => (((S2.1 5015 0) ≤ v4 → kx S2 v3) ∧ (¬ (S2.1 5015 0) ≤ v4 → (w_X7_figureOf S2 v4 f5  (fun r7 => (w_X7_barOf r7  (fun r8 => (∀ J9 : St → Int32 → Prop, J9 = (fun (S10 : St) (x11 : Int32) => ((x11 = 0 → ∀ x12 : Int32, x12 = v3 ||| (0 : Int32) → ∀ x13 : Int32, x13 = v4 + (1 : Int32) → rec S10 x12 x13) ∧ (¬ x11 = 0 → (¬ (10 : Int32) = 0 ∧ ∀ x14 : Int32, x14 = v3 ||| ((1 : Int32) <<< ((((r7 - (1 : Int32)) - (r7 - (1 : Int32)) / (10 : Int32) * (10 : Int32)) + (1 : Int32)) &&& 31)) → ∀ x15 : Int32, x15 = v4 + (1 : Int32) → rec S10 x14 x15)))) → ∀ J16 : St → Prop, J16 = (fun (S17 : St) => J9 S17 (0 : Int32)) → ((¬ r8 = f6 → J16 S2) ∧ (r8 = f6 → (w_X7_isWay S2 v4  (fun r18 S19 => ((r18 = 0 → J16 S19) ∧ (¬ r18 = 0 → J9 S19 (1 : Int32))))))))))))))) (X7_claims_L9 f5 f6 kx n)
def w_X7_claims (S0 : St) (p1 : Int32) (p2 : Int32) (Q : Int32 → St → Prop) : Prop :=
  (w_X7_lays S0  (fun S1 => (∃ n : Nat, X7_claims_L9 p1 p2 (fun (S22 : St) (v23 : Int32) => Q v23 S22) n S1 (0 : Int32) (0 : Int32))))
set_option maxRecDepth 100000 in
set_option maxHeartbeats 4000000 in
theorem l_X7_claims_L9 {Z : Zt} {e : GE} {f5 : Int32} {f6 : Int32} {kx : St → Int32 → Prop} (hk : ∀ (S20 : St) (v21 : Int32), kx S20 v21 → MW Z e cX7_claims 7 RX7 4 81 [(3, .int v21)] [] S20) : ∀ (n : Nat) (S2 : St) (v3 : Int32) (v4 : Int32), X7_claims_L9 f5 f6 kx n S2 v3 v4 → MW Z e cX7_claims 7 RX7 4 9 [(0, .ref (e.2.2.1 49)), (1, .int f5), (2, .int f6), (3, .int v3), (4, .int v4)] [] S2 := by
  intro n
  induction n with
  | zero =>
    intro S2 v3 v4 h
    exact h.elim
  | succ n ih =>
    intro S2 v3 v4 h
    rw [X7_claims_L9] at h
    refine m_iload dX7_claims_9 4 rfl ?_
    refine m_aload_n dX7_claims_11 0 rfl rfl ?_
    refine m_get 49 15 (o_49 e _) rfl inlX7 (by decide) q24_7 rfl dX7_claims_12 ?_
    refine m_icmp_ge (tgt := 81) dX7_claims_15 (by decide) (fun z => ?_) (fun z => ?_)
    · replace h := h.1 z
      refine m_loc [3] rfl ?_
      exact hk S2 v3 h
    · replace h := h.2 z
      refine m_aload_n dX7_claims_18 0 rfl rfl ?_
      refine m_iload dX7_claims_19 4 rfl ?_
      refine m_iload_n dX7_claims_21 1 rfl rfl ?_
      refine m_callV 49 [.int v4, .int f5] (c_X7_figureOf h) (o_49 e _) rfl rfl q24_16 q24_17 q24_18 q1_5 q24_19 t_X7_figureOf rfl (by omega) (by decide) (Nat.le_of_ble_eq_true rfl) rfl dX7_claims_22 (kR (P := MW Z e cX7_claims 7 RX7 4 25 [(0, .ref (e.2.2.1 49)), (1, .int f5), (2, .int f6), (3, .int v3), (4, .int v4)]) (fun r7 h => ?_))
      refine m_istore (lv2 := [(5, .int r7), (0, .ref (e.2.2.1 49)), (1, .int f5), (2, .int f6), (3, .int v3), (4, .int v4)]) dX7_claims_25 (by decide) rfl ?_
      refine m_iload dX7_claims_27 0 rfl ?_
      refine m_callS [.int r7] (c_X7_barOf h) q25_13 q25_14 q1_5 q25_15 t_X7_barOf rfl (by omega) (by decide) (Nat.le_of_ble_eq_true rfl) rfl dX7_claims_29 (kR (P := MW Z e cX7_claims 7 RX7 4 32 [(5, .int r7), (0, .ref (e.2.2.1 49)), (1, .int f5), (2, .int f6), (3, .int v3), (4, .int v4)]) (fun r8 h => ?_))
      refine m_iload_n dX7_claims_32 3 rfl rfl ?_
      obtain ⟨J9, eJ9, h⟩ := jn h
      have kJ9 : ∀ (S10 : St) (x11 : Int32), J9 S10 x11 → MW Z e cX7_claims 7 RX7 4 50 [(0, .ref (e.2.2.1 49)), (1, .int f5), (2, .int f6), (3, .int v3), (4, .int v4), (5, .int r7)] [.int x11] S10 := by
        intro S10 x11 h
        rw [eJ9] at h
        refine m_istore (lv2 := [(6, .int x11), (0, .ref (e.2.2.1 49)), (1, .int f5), (2, .int f6), (3, .int v3), (4, .int v4), (5, .int r7)]) dX7_claims_50 (by decide) rfl ?_
        refine m_iload_n dX7_claims_52 4 rfl rfl ?_
        refine m_iload dX7_claims_53 0 rfl ?_
        refine m_if_eq (tgt := 72) dX7_claims_55 (by decide) (fun z => ?_) (fun z => ?_)
        · replace h := h.1 z
          refine m_iconst (v := 0) dX7_claims_72 (by decide) ?_
          refine m_ior dX7_claims_73 ?_
          refine m_topi (fun x12 ex12 => ?_)
          replace h := h x12 ex12
          refine m_istore_n (lv2 := [(3, .int x12), (6, .int x11), (0, .ref (e.2.2.1 49)), (1, .int f5), (2, .int f6), (4, .int v4), (5, .int r7)]) dX7_claims_74 rfl (by decide) rfl ?_
          obtain ⟨x13, ex13⟩ : ∃ y : Int32, y = v4 + (1 : Int32) := ⟨_, rfl⟩
          replace h := h x13 ex13
          refine m_iinc (v := x13) (lv2 := [(4, .int x13), (3, .int x12), (6, .int x11), (0, .ref (e.2.2.1 49)), (1, .int f5), (2, .int f6), (5, .int r7)]) dX7_claims_75 5 rfl ex13.symm (by decide) rfl ?_
          refine m_goto (tgt := 9) dX7_claims_78 (by decide) ?_
          refine m_loc [3, 4, 5, 1, 0] rfl ?_
          exact ih S10 x12 x13 h
        · replace h := h.2 z
          refine m_iconst (v := 1) dX7_claims_58 (by decide) ?_
          refine m_iload dX7_claims_59 6 rfl ?_
          refine m_iconst (v := 1) dX7_claims_61 (by decide) ?_
          refine m_isub dX7_claims_62 ?_
          refine m_bipush (v := 10) dX7_claims_63 (by decide) ?_
          refine m_irem dX7_claims_65 h.1 ?_
          replace h := h.2
          refine m_iconst (v := 1) dX7_claims_66 (by decide) ?_
          refine m_iadd dX7_claims_67 ?_
          refine m_ishl dX7_claims_68 ?_
          refine m_goto (tgt := 73) dX7_claims_69 (by decide) ?_
          refine m_ior dX7_claims_73 ?_
          refine m_topi (fun x14 ex14 => ?_)
          replace h := h x14 ex14
          refine m_istore_n (lv2 := [(3, .int x14), (6, .int x11), (0, .ref (e.2.2.1 49)), (1, .int f5), (2, .int f6), (4, .int v4), (5, .int r7)]) dX7_claims_74 rfl (by decide) rfl ?_
          obtain ⟨x15, ex15⟩ : ∃ y : Int32, y = v4 + (1 : Int32) := ⟨_, rfl⟩
          replace h := h x15 ex15
          refine m_iinc (v := x15) (lv2 := [(4, .int x15), (3, .int x14), (6, .int x11), (0, .ref (e.2.2.1 49)), (1, .int f5), (2, .int f6), (5, .int r7)]) dX7_claims_75 5 rfl ex15.symm (by decide) rfl ?_
          refine m_goto (tgt := 9) dX7_claims_78 (by decide) ?_
          refine m_loc [3, 4, 5, 1, 0] rfl ?_
          exact ih S10 x14 x15 h
      obtain ⟨J16, eJ16, h⟩ := jn h
      have kJ16 : ∀ (S17 : St), J16 S17 → MW Z e cX7_claims 7 RX7 4 49 [(0, .ref (e.2.2.1 49)), (1, .int f5), (2, .int f6), (3, .int v3), (4, .int v4), (5, .int r7)] [] S17 := by
        intro S17 h
        rw [eJ16] at h
        refine m_iconst (v := 0) dX7_claims_49 (by decide) ?_
        exact kJ9 S17 (0 : Int32) h
      refine m_icmp_ne (tgt := 49) dX7_claims_33 (by decide) (fun z => ?_) (fun z => ?_)
      · replace h := h.1 z
        refine m_loc [1, 2, 3, 4, 5, 0] rfl ?_
        exact kJ16 S2 h
      · replace h := h.2 z
        refine m_aload_n dX7_claims_36 1 rfl rfl ?_
        refine m_iload dX7_claims_37 5 rfl ?_
        refine m_callV 49 [.int v4] (c_X7_isWay h) (o_49 e _) rfl rfl q24_12 q24_13 q24_14 q1_5 q24_15 t_X7_isWay rfl (by omega) (by decide) (Nat.le_of_ble_eq_true rfl) rfl dX7_claims_39 (kI (P := MW Z e cX7_claims 7 RX7 4 42 [(5, .int r7), (0, .ref (e.2.2.1 49)), (1, .int f5), (2, .int f6), (3, .int v3), (4, .int v4)]) (fun r18 S19 h => ?_))
        refine m_if_eq (tgt := 49) dX7_claims_42 (by decide) (fun z => ?_) (fun z => ?_)
        · replace h := h.1 z
          refine m_loc [1, 2, 3, 4, 5, 0] rfl ?_
          exact kJ16 S19 h
        · replace h := h.2 z
          refine m_iconst (v := 1) dX7_claims_45 (by decide) ?_
          refine m_goto (tgt := 50) dX7_claims_46 (by decide) ?_
          refine m_loc [1, 2, 3, 4, 5, 0] rfl ?_
          exact kJ9 S19 (1 : Int32) h
set_option maxRecDepth 100000 in
set_option maxHeartbeats 4000000 in
theorem c_X7_claims {e : GE} {S0 : St} {p1 : Int32} {p2 : Int32} {Q : Int32 → St → Prop} (h : w_X7_claims S0 p1 p2 Q) : CT e yX7_claims cX7_claims 7 (some .int) 4 [.ref (e.2.2.1 49), .int p1, .int p2] S0 (pI Q) := by
  refine CT.of (by decide) (Nat.le_of_ble_eq_true rfl) (fun Z hR => ?_)
  rw [w_X7_claims] at h
  show MW Z e cX7_claims 7 RX7 4 0 [(0, .ref (e.2.2.1 49)), (1, .int p1), (2, .int p2)] [] S0
  refine m_aload_n dX7_claims_0 0 rfl rfl ?_
  refine m_callV 49 [] (c_X7_lays h) (o_49 e _) rfl rfl q24_8 q24_9 q24_10 q1_5 q24_11 t_X7_lays rfl (by omega) (by decide) (Nat.le_of_ble_eq_true rfl) rfl dX7_claims_1 (kV (P := MW Z e cX7_claims 7 RX7 4 4 [(0, .ref (e.2.2.1 49)), (1, .int p1), (2, .int p2)]) (fun S1 h => ?_))
  refine m_iconst (v := 0) dX7_claims_4 (by decide) ?_
  refine m_istore_n (lv2 := [(3, .int (0 : Int32)), (0, .ref (e.2.2.1 49)), (1, .int p1), (2, .int p2)]) dX7_claims_5 rfl (by decide) rfl ?_
  refine m_iconst (v := 0) dX7_claims_6 (by decide) ?_
  refine m_istore (lv2 := [(4, .int (0 : Int32)), (3, .int (0 : Int32)), (0, .ref (e.2.2.1 49)), (1, .int p1), (2, .int p2)]) dX7_claims_7 (by decide) rfl ?_
  obtain ⟨n, h⟩ := h
  refine m_loc [2, 3, 4, 1, 0] rfl ?_
  refine l_X7_claims_L9 (fun S22 v23 h => ?_) n S1 (0 : Int32) (0 : Int32) h
  refine m_iload_n dX7_claims_81 0 rfl rfl ?_
  exact m_iret hR ⟨_, rfl, h⟩ dX7_claims_82
def w_X7_claim (S0 : St) (p1 : Int32) (p2 : Int32) (p3 : Int32) (Q : Int32 → St → Prop) : Prop :=
  (w_X7_isClaim S0 p1 p2 p3  (fun r1 => ((r1 = 0 → Q (-1 : Int32) S0) ∧ (¬ r1 = 0 → (w_X7_claims S0 p1 p2  (fun r2 S3 => Q ((r2 >>> (p3 &&& 31)) &&& (1 : Int32)) S3))))))
set_option maxRecDepth 100000 in
set_option maxHeartbeats 4000000 in
theorem c_X7_claim {e : GE} {S0 : St} {p1 : Int32} {p2 : Int32} {p3 : Int32} {Q : Int32 → St → Prop} (h : w_X7_claim S0 p1 p2 p3 Q) : CT e yX7_claim cX7_claim 4 (some .int) 5 [.ref (e.2.2.1 49), .int p1, .int p2, .int p3] S0 (pI Q) := by
  refine CT.of (by decide) (Nat.le_of_ble_eq_true rfl) (fun Z hR => ?_)
  rw [w_X7_claim] at h
  show MW Z e cX7_claim 4 RX7 5 0 [(0, .ref (e.2.2.1 49)), (1, .int p1), (2, .int p2), (3, .int p3)] [] S0
  refine m_aload_n dX7_claim_0 0 rfl rfl ?_
  refine m_iload_n dX7_claim_1 1 rfl rfl ?_
  refine m_iload_n dX7_claim_2 2 rfl rfl ?_
  refine m_iload_n dX7_claim_3 3 rfl rfl ?_
  refine m_callV 49 [.int p1, .int p2, .int p3] (c_X7_isClaim h) (o_49 e _) rfl rfl q26_19 q26_20 q26_21 q1_5 q26_22 t_X7_isClaim rfl (by omega) (by decide) (Nat.le_of_ble_eq_true rfl) rfl dX7_claim_4 (kR (P := MW Z e cX7_claim 4 RX7 5 7 [(0, .ref (e.2.2.1 49)), (1, .int p1), (2, .int p2), (3, .int p3)]) (fun r1 h => ?_))
  refine m_if_eq (tgt := 23) dX7_claim_7 (by decide) (fun z => ?_) (fun z => ?_)
  · replace h := h.1 z
    refine m_iconst (v := -1) dX7_claim_23 (by decide) ?_
    exact m_iret hR ⟨_, rfl, h⟩ dX7_claim_24
  · replace h := h.2 z
    refine m_aload_n dX7_claim_10 0 rfl rfl ?_
    refine m_iload_n dX7_claim_11 1 rfl rfl ?_
    refine m_iload_n dX7_claim_12 2 rfl rfl ?_
    refine m_callV 49 [.int p1, .int p2] (c_X7_claims h) (o_49 e _) rfl rfl q26_23 q27_0 q27_1 q1_5 q27_2 t_X7_claims rfl (by omega) (by decide) (Nat.le_of_ble_eq_true rfl) rfl dX7_claim_13 (kI (P := MW Z e cX7_claim 4 RX7 5 16 [(0, .ref (e.2.2.1 49)), (1, .int p1), (2, .int p2), (3, .int p3)]) (fun r2 S3 h => ?_))
    refine m_iload_n dX7_claim_16 3 rfl rfl ?_
    refine m_ishr dX7_claim_17 ?_
    refine m_iconst (v := 1) dX7_claim_18 (by decide) ?_
    refine m_iand dX7_claim_19 ?_
    refine m_goto (tgt := 24) dX7_claim_20 (by decide) ?_
    exact m_iret hR ⟨_, rfl, h⟩ dX7_claim_24
def X7_saves_L23 (S7 : St) (f5 : Int32) (f6 : Int32) (Q : Int32 → St → Prop) (kx : Prop) : Nat → Int32 → Prop
  | 0 => fun _ => False
  | n + 1 => (fun (rec : Int32 → Prop) => fun (v4 : Int32) => (((10 : Int32) ≤ v4 → kx) ∧ (¬ (10 : Int32) ≤ v4 → (∀ J8 : Prop, J8 = (((¬ ((f6 >>> ((f5 + v4) &&& 31)) &&& (1 : Int32)) = (1 : Int32) → ∀ x9 : Int32, x9 = v4 + (1 : Int32) → rec x9) ∧ (((f6 >>> ((f5 + v4) &&& 31)) &&& (1 : Int32)) = (1 : Int32) → Q (f5 + v4) S7))) → ((f5 ≤ v4 → J8) ∧ (¬ f5 ≤ v4 → ((¬ ((f6 >>> ((f5 - v4) &&& 31)) &&& (1 : Int32)) = (1 : Int32) → J8) ∧ (((f6 >>> ((f5 - v4) &&& 31)) &&& (1 : Int32)) = (1 : Int32) → Q (f5 - v4) S7)))))))) (X7_saves_L23 S7 f5 f6 Q kx n)
def w_X7_saves (S0 : St) (p1 : Int32) (p2 : Int32) (p3 : Int32) (Q : Int32 → St → Prop) : Prop :=
  (w_X7_isClaim S0 p1 p2 p3  (fun r1 => ((¬ r1 = 0 → (w_X7_claims S0 p1 p2  (fun r2 S3 => (∃ n : Nat, X7_saves_L23 S3 p3 r2 Q (Q (-9 : Int32) S3) n (0 : Int32))))) ∧ (r1 = 0 → Q (-1 : Int32) S0))))
set_option maxRecDepth 100000 in
set_option maxHeartbeats 4000000 in
theorem l_X7_saves_L23 {Z : Zt} {e : GE} {S7 : St} {f5 : Int32} {f6 : Int32} {Q : Int32 → St → Prop} {kx : Prop} (hR : RT Z e (some .int) (pI Q)) (hk : kx  → MW Z e cX7_saves 6 RX7 5 78 [] [] S7) : ∀ (n : Nat) (v4 : Int32), X7_saves_L23 S7 f5 f6 Q kx n v4 → MW Z e cX7_saves 6 RX7 5 23 [(3, .int f5), (4, .int f6), (5, .int v4)] [] S7 := by
  intro n
  induction n with
  | zero =>
    intro v4 h
    exact h.elim
  | succ n ih =>
    intro v4 h
    rw [X7_saves_L23] at h
    refine m_iload dX7_saves_23 2 rfl ?_
    refine m_bipush (v := 10) dX7_saves_25 (by decide) ?_
    refine m_icmp_ge (tgt := 78) dX7_saves_27 (by decide) (fun z => ?_) (fun z => ?_)
    · replace h := h.1 z
      refine m_loc [] rfl ?_
      exact hk  h
    · replace h := h.2 z
      refine m_iload_n dX7_saves_30 0 rfl rfl ?_
      refine m_iload dX7_saves_31 2 rfl ?_
      obtain ⟨J8, eJ8, h⟩ := jn h
      have kJ8 : J8 → MW Z e cX7_saves 6 RX7 5 54 [(3, .int f5), (4, .int f6), (5, .int v4)] [] S7 := by
        intro  h
        rw [eJ8] at h
        refine m_iload dX7_saves_54 1 rfl ?_
        refine m_iload_n dX7_saves_56 0 rfl rfl ?_
        refine m_iload dX7_saves_57 2 rfl ?_
        refine m_iadd dX7_saves_59 ?_
        refine m_ishr dX7_saves_60 ?_
        refine m_iconst (v := 1) dX7_saves_61 (by decide) ?_
        refine m_iand dX7_saves_62 ?_
        refine m_iconst (v := 1) dX7_saves_63 (by decide) ?_
        refine m_icmp_ne (tgt := 72) dX7_saves_64 (by decide) (fun z => ?_) (fun z => ?_)
        · replace h := h.1 z
          obtain ⟨x9, ex9⟩ : ∃ y : Int32, y = v4 + (1 : Int32) := ⟨_, rfl⟩
          replace h := h x9 ex9
          refine m_iinc (v := x9) (lv2 := [(5, .int x9), (3, .int f5), (4, .int f6)]) dX7_saves_72 2 rfl ex9.symm (by decide) rfl ?_
          refine m_goto (tgt := 23) dX7_saves_75 (by decide) ?_
          refine m_loc [1, 2, 0] rfl ?_
          exact ih x9 h
        · replace h := h.2 z
          refine m_iload_n dX7_saves_67 0 rfl rfl ?_
          refine m_iload dX7_saves_68 2 rfl ?_
          refine m_iadd dX7_saves_70 ?_
          exact m_iret hR ⟨_, rfl, h⟩ dX7_saves_71
      refine m_icmp_le (tgt := 54) dX7_saves_33 (by decide) (fun z => ?_) (fun z => ?_)
      · replace h := h.1 z
        exact kJ8  h
      · replace h := h.2 z
        refine m_iload dX7_saves_36 1 rfl ?_
        refine m_iload_n dX7_saves_38 0 rfl rfl ?_
        refine m_iload dX7_saves_39 2 rfl ?_
        refine m_isub dX7_saves_41 ?_
        refine m_ishr dX7_saves_42 ?_
        refine m_iconst (v := 1) dX7_saves_43 (by decide) ?_
        refine m_iand dX7_saves_44 ?_
        refine m_iconst (v := 1) dX7_saves_45 (by decide) ?_
        refine m_icmp_ne (tgt := 54) dX7_saves_46 (by decide) (fun z => ?_) (fun z => ?_)
        · replace h := h.1 z
          exact kJ8  h
        · replace h := h.2 z
          refine m_iload_n dX7_saves_49 0 rfl rfl ?_
          refine m_iload dX7_saves_50 2 rfl ?_
          refine m_isub dX7_saves_52 ?_
          exact m_iret hR ⟨_, rfl, h⟩ dX7_saves_53
set_option maxRecDepth 100000 in
set_option maxHeartbeats 4000000 in
theorem c_X7_saves {e : GE} {S0 : St} {p1 : Int32} {p2 : Int32} {p3 : Int32} {Q : Int32 → St → Prop} (h : w_X7_saves S0 p1 p2 p3 Q) : CT e yX7_saves cX7_saves 6 (some .int) 5 [.ref (e.2.2.1 49), .int p1, .int p2, .int p3] S0 (pI Q) := by
  refine CT.of (by decide) (Nat.le_of_ble_eq_true rfl) (fun Z hR => ?_)
  rw [w_X7_saves] at h
  show MW Z e cX7_saves 6 RX7 5 0 [(0, .ref (e.2.2.1 49)), (1, .int p1), (2, .int p2), (3, .int p3)] [] S0
  refine m_aload_n dX7_saves_0 0 rfl rfl ?_
  refine m_iload_n dX7_saves_1 1 rfl rfl ?_
  refine m_iload_n dX7_saves_2 2 rfl rfl ?_
  refine m_iload_n dX7_saves_3 3 rfl rfl ?_
  refine m_callV 49 [.int p1, .int p2, .int p3] (c_X7_isClaim h) (o_49 e _) rfl rfl q26_19 q26_20 q26_21 q1_5 q26_22 t_X7_isClaim rfl (by omega) (by decide) (Nat.le_of_ble_eq_true rfl) rfl dX7_saves_4 (kR (P := MW Z e cX7_saves 6 RX7 5 7 [(0, .ref (e.2.2.1 49)), (1, .int p1), (2, .int p2), (3, .int p3)]) (fun r1 h => ?_))
  refine m_if_ne (tgt := 12) dX7_saves_7 (by decide) (fun z => ?_) (fun z => ?_)
  · replace h := h.1 z
    refine m_aload_n dX7_saves_12 0 rfl rfl ?_
    refine m_iload_n dX7_saves_13 1 rfl rfl ?_
    refine m_iload_n dX7_saves_14 2 rfl rfl ?_
    refine m_callV 49 [.int p1, .int p2] (c_X7_claims h) (o_49 e _) rfl rfl q26_23 q27_0 q27_1 q1_5 q27_2 t_X7_claims rfl (by omega) (by decide) (Nat.le_of_ble_eq_true rfl) rfl dX7_saves_15 (kI (P := MW Z e cX7_saves 6 RX7 5 18 [(0, .ref (e.2.2.1 49)), (1, .int p1), (2, .int p2), (3, .int p3)]) (fun r2 S3 h => ?_))
    refine m_istore (lv2 := [(4, .int r2), (0, .ref (e.2.2.1 49)), (1, .int p1), (2, .int p2), (3, .int p3)]) dX7_saves_18 (by decide) rfl ?_
    refine m_iconst (v := 0) dX7_saves_20 (by decide) ?_
    refine m_istore (lv2 := [(5, .int (0 : Int32)), (4, .int r2), (0, .ref (e.2.2.1 49)), (1, .int p1), (2, .int p2), (3, .int p3)]) dX7_saves_21 (by decide) rfl ?_
    obtain ⟨n, h⟩ := h
    refine m_loc [5, 1, 0] rfl ?_
    refine l_X7_saves_L23 hR (fun h => ?_) n (0 : Int32) h
    refine m_bipush (v := -9) dX7_saves_78 (by decide) ?_
    exact m_iret hR ⟨_, rfl, h⟩ dX7_saves_80
  · replace h := h.2 z
    refine m_iconst (v := -1) dX7_saves_10 (by decide) ?_
    exact m_iret hR ⟨_, rfl, h⟩ dX7_saves_11
def X7_scrape_L17 (f5 : Int32) (kx : St → Prop) : Nat → St → Int32 → Prop
  | 0 => fun _ _ => False
  | n + 1 => (fun (rec : St → Int32 → Prop) => fun (S3 : St) (v4 : Int32) => (((2400 : Int32) ≤ v4 → kx S3) ∧ (¬ (2400 : Int32) ≤ v4 → (vp_in v4 2400 ∧ ∀ S6 : St, S6 = setA S3 59 (upd (S3.1 59) v4.toNatClampNeg (0 : Int32)) → ∀ x7 : Int32, x7 = v4 + (1 : Int32) → rec S6 x7)))) (X7_scrape_L17 f5 kx n)
def X7_scrape_L56 (f17 : Int32) (f18 : Int32) (f19 : Int32) (kx : St → Prop) : Nat → St → Int32 → Prop
  | 0 => fun _ _ => False
  | n + 1 => (fun (rec : St → Int32 → Prop) => fun (S15 : St) (v16 : Int32) => (vp_in (0 : Int32) 47 ∧ (((S15.1 51 (0 : Int32).toNatClampNeg) ≤ v16 → kx S15) ∧ (¬ (S15.1 51 (0 : Int32).toNatClampNeg) ≤ v16 → ((f19 = 0 → kx S15) ∧ (¬ f19 = 0 → (vp_in v16 6 ∧ (vp_in (((400 : Int32) * v16) + (S15.1 58 v16.toNatClampNeg)) 2400 ∧ (vp_in (((400 : Int32) * v16) + (S15.1 58 v16.toNatClampNeg)) 2400 ∧ ∀ S20 : St, S20 = setA S15 59 (upd (S15.1 59) (((400 : Int32) * v16) + (S15.1 58 v16.toNatClampNeg)).toNatClampNeg ((S15.1 59 (((400 : Int32) * v16) + (S15.1 58 v16.toNatClampNeg)).toNatClampNeg) + (1 : Int32))) → ∀ x21 : Int32, x21 = v16 + (1 : Int32) → rec S20 x21))))))))) (X7_scrape_L56 f17 f18 f19 kx n)
def X7_scrape_L39 (f12 : Int32) (kx : St → Prop) : Nat → St → Int32 → Prop
  | 0 => fun _ _ => False
  | n + 1 => (fun (rec : St → Int32 → Prop) => fun (S10 : St) (v11 : Int32) => (((S10.1 5015 0) ≤ v11 → kx S10) ∧ (¬ (S10.1 5015 0) ≤ v11 → (w_X7_isWay S10 v11  (fun r13 S14 => (∃ n : Nat, X7_scrape_L56 f12 v11 r13 (fun (S23 : St) => ∀ x24 : Int32, x24 = v11 + (1 : Int32) → rec S23 x24) n S14 (0 : Int32))))))) (X7_scrape_L39 f12 kx n)
def X7_scrape_L131 (S38 : St) (f34 : Int32) (f35 : Int32) (f36 : Int32) (f37 : Int32) (kx : Int32 → Prop) : Nat → Int32 → Int32 → Prop
  | 0 => fun _ _ => False
  | n + 1 => (fun (rec : Int32 → Int32 → Prop) => fun (v32 : Int32) (v33 : Int32) => (((400 : Int32) ≤ v33 → kx v32) ∧ (¬ (400 : Int32) ≤ v33 → (vp_in ((49 : Int32) + f37) 55 ∧ ((¬ (S38.1 53 ((49 : Int32) + f37).toNatClampNeg) = (-9 : Int32) → kx v32) ∧ ((S38.1 53 ((49 : Int32) + f37).toNatClampNeg) = (-9 : Int32) → (vp_in (((400 : Int32) * f37) + v33) 2400 ∧ (((S38.1 59 (((400 : Int32) * f37) + v33).toNatClampNeg) ≤ v32 → ∀ x39 : Int32, x39 = v33 + (1 : Int32) → rec v32 x39) ∧ (¬ (S38.1 59 (((400 : Int32) * f37) + v33).toNatClampNeg) ≤ v32 → (vp_in (((400 : Int32) * f37) + v33) 2400 ∧ ∀ x40 : Int32, x40 = S38.1 59 (((400 : Int32) * f37) + v33).toNatClampNeg → ∀ x41 : Int32, x41 = v33 + (1 : Int32) → rec x40 x41)))))))))) (X7_scrape_L131 S38 f34 f35 f36 f37 kx n)
def X7_scrape_L114 (S31 : St) (f30 : Int32) (kx : Int32 → Int32 → Prop) : Nat → Int32 → Int32 → Int32 → Prop
  | 0 => fun _ _ _ => False
  | n + 1 => (fun (rec : Int32 → Int32 → Int32 → Prop) => fun (v27 : Int32) (v28 : Int32) (v29 : Int32) => (vp_in (0 : Int32) 47 ∧ (((S31.1 51 (0 : Int32).toNatClampNeg) ≤ v29 → kx v27 v28) ∧ (¬ (S31.1 51 (0 : Int32).toNatClampNeg) ≤ v29 → (∃ n : Nat, X7_scrape_L131 S31 f30 v27 v28 v29 (fun (v43 : Int32) => (∀ J44 : Int32 → Prop, J44 = (fun (x45 : Int32) => (∀ J46 : Int32 → Prop, J46 = (fun (x47 : Int32) => ((x45 = 0 → ∀ x48 : Int32, x48 = v29 + (1 : Int32) → rec x47 v28 x48) ∧ (¬ x45 = 0 → ∀ x49 : Int32, x49 = v29 + (1 : Int32) → rec x47 v43 x49))) → ((x45 = 0 → J46 v27) ∧ (¬ x45 = 0 → J46 v29)))) → ∀ J50 : Prop, J50 = (J44 (0 : Int32)) → ((v43 ≤ 0 → J50) ∧ (¬ v43 ≤ 0 → ((v27 = (-9 : Int32) → J44 (1 : Int32)) ∧ (¬ v27 = (-9 : Int32) → ((v28 ≤ v43 → J50) ∧ (¬ v28 ≤ v43 → J44 (1 : Int32))))))))) n (0 : Int32) (0 : Int32)))))) (X7_scrape_L114 S31 f30 kx n)
def w_X7_scrape (S0 : St) (p1 : Int32) (Q : Int32 → St → Prop) : Prop :=
  (w_X7_in p1 (0 : Int32) (1 : Int32)  (fun r1 => ((¬ r1 = 0 → (w_X7_lays S0  (fun S2 => (∃ n : Nat, X7_scrape_L17 p1 (fun (S9 : St) => (∃ n : Nat, X7_scrape_L39 p1 (fun (S26 : St) => (∃ n : Nat, X7_scrape_L114 S26 p1 (fun (v53 : Int32) (v54 : Int32) => ((p1 = 0 → Q v53 S26) ∧ (¬ p1 = 0 → ((¬ v53 = (-9 : Int32) → Q v54 S26) ∧ (v53 = (-9 : Int32) → Q v53 S26))))) n (-9 : Int32) (0 : Int32) (0 : Int32))) n S9 (0 : Int32))) n S2 (0 : Int32))))) ∧ (r1 = 0 → Q (-1 : Int32) S0))))
set_option maxRecDepth 100000 in
set_option maxHeartbeats 4000000 in
theorem l_X7_scrape_L17 {Z : Zt} {e : GE} {f5 : Int32} {kx : St → Prop} (hk : ∀ (S8 : St), kx S8 → MW Z e cX7_scrape 7 RX7 4 37 [(0, .ref (e.2.2.1 49)), (1, .int f5)] [] S8) : ∀ (n : Nat) (S3 : St) (v4 : Int32), X7_scrape_L17 f5 kx n S3 v4 → MW Z e cX7_scrape 7 RX7 4 17 [(0, .ref (e.2.2.1 49)), (1, .int f5), (2, .int v4)] [] S3 := by
  intro n
  induction n with
  | zero =>
    intro S3 v4 h
    exact h.elim
  | succ n ih =>
    intro S3 v4 h
    rw [X7_scrape_L17] at h
    refine m_iload_n dX7_scrape_17 2 rfl rfl ?_
    refine m_sipush (v := 2400) dX7_scrape_18 (by decide) ?_
    refine m_icmp_ge (tgt := 37) dX7_scrape_21 (by decide) (fun z => ?_) (fun z => ?_)
    · replace h := h.1 z
      refine m_loc [0, 1] rfl ?_
      exact hk S3 h
    · replace h := h.2 z
      refine m_aload_n dX7_scrape_24 0 rfl rfl ?_
      refine m_get 49 16 (o_49 e _) rfl inlX7 (by decide) q5_23 rfl dX7_scrape_25 ?_
      refine m_iload_n dX7_scrape_28 2 rfl rfl ?_
      refine m_iconst (v := 0) dX7_scrape_29 (by decide) ?_
      refine m_iast 59 (a_59 e _) (aw_59 e _) h.1 dX7_scrape_30 (fun S6 eS6 => ?_)
      replace h := h.2 S6 eS6
      obtain ⟨x7, ex7⟩ : ∃ y : Int32, y = v4 + (1 : Int32) := ⟨_, rfl⟩
      replace h := h x7 ex7
      refine m_iinc (v := x7) (lv2 := [(2, .int x7), (0, .ref (e.2.2.1 49)), (1, .int f5)]) dX7_scrape_31 2 rfl ex7.symm (by decide) rfl ?_
      refine m_goto (tgt := 17) dX7_scrape_34 (by decide) ?_
      refine m_loc [1, 2, 0] rfl ?_
      exact ih S6 x7 h
set_option maxRecDepth 100000 in
set_option maxHeartbeats 4000000 in
theorem l_X7_scrape_L56 {Z : Zt} {e : GE} {f17 : Int32} {f18 : Int32} {f19 : Int32} {kx : St → Prop} (hk : ∀ (S22 : St), kx S22 → MW Z e cX7_scrape 7 RX7 4 100 [(0, .ref (e.2.2.1 49)), (1, .int f17), (2, .int f18)] [] S22) : ∀ (n : Nat) (S15 : St) (v16 : Int32), X7_scrape_L56 f17 f18 f19 kx n S15 v16 → MW Z e cX7_scrape 7 RX7 4 56 [(0, .ref (e.2.2.1 49)), (1, .int f17), (2, .int f18), (3, .int f19), (4, .int v16)] [] S15 := by
  intro n
  induction n with
  | zero =>
    intro S15 v16 h
    exact h.elim
  | succ n ih =>
    intro S15 v16 h
    rw [X7_scrape_L56] at h
    refine m_iload dX7_scrape_56 4 rfl ?_
    refine m_aload_n dX7_scrape_58 0 rfl rfl ?_
    refine m_get 49 3 (o_49 e _) rfl inlX7 (by decide) q5_15 rfl dX7_scrape_59 ?_
    refine m_iconst (v := 0) dX7_scrape_62 (by decide) ?_
    refine m_iald 51 (a_51 e _) h.1 dX7_scrape_63 ?_
    replace h := h.2
    refine m_icmp_ge (tgt := 100) dX7_scrape_64 (by decide) (fun z => ?_) (fun z => ?_)
    · replace h := h.1 z
      refine m_loc [0, 1, 2] rfl ?_
      exact hk S15 h
    · replace h := h.2 z
      refine m_iload_n dX7_scrape_67 3 rfl rfl ?_
      refine m_if_eq (tgt := 100) dX7_scrape_68 (by decide) (fun z => ?_) (fun z => ?_)
      · replace h := h.1 z
        refine m_loc [0, 1, 2] rfl ?_
        exact hk S15 h
      · replace h := h.2 z
        refine m_aload_n dX7_scrape_71 0 rfl rfl ?_
        refine m_get 49 16 (o_49 e _) rfl inlX7 (by decide) q5_23 rfl dX7_scrape_72 ?_
        refine m_sipush (v := 400) dX7_scrape_75 (by decide) ?_
        refine m_iload dX7_scrape_78 4 rfl ?_
        refine m_imul dX7_scrape_80 ?_
        refine m_aload_n dX7_scrape_81 0 rfl rfl ?_
        refine m_get 49 14 (o_49 e _) rfl inlX7 (by decide) q5_22 rfl dX7_scrape_82 ?_
        refine m_iload dX7_scrape_85 4 rfl ?_
        refine m_iald 58 (a_58 e _) h.1 dX7_scrape_87 ?_
        replace h := h.2
        refine m_iadd dX7_scrape_88 ?_
        refine m_dup2 dX7_scrape_89 rfl rfl ?_
        refine m_iald 59 (a_59 e _) h.1 dX7_scrape_90 ?_
        replace h := h.2
        refine m_iconst (v := 1) dX7_scrape_91 (by decide) ?_
        refine m_iadd dX7_scrape_92 ?_
        refine m_iast 59 (a_59 e _) (aw_59 e _) h.1 dX7_scrape_93 (fun S20 eS20 => ?_)
        replace h := h.2 S20 eS20
        obtain ⟨x21, ex21⟩ : ∃ y : Int32, y = v16 + (1 : Int32) := ⟨_, rfl⟩
        replace h := h x21 ex21
        refine m_iinc (v := x21) (lv2 := [(4, .int x21), (0, .ref (e.2.2.1 49)), (1, .int f17), (2, .int f18), (3, .int f19)]) dX7_scrape_94 4 rfl ex21.symm (by decide) rfl ?_
        refine m_goto (tgt := 56) dX7_scrape_97 (by decide) ?_
        refine m_loc [1, 2, 3, 4, 0] rfl ?_
        exact ih S20 x21 h
set_option maxRecDepth 100000 in
set_option maxHeartbeats 4000000 in
theorem l_X7_scrape_L39 {Z : Zt} {e : GE} {f12 : Int32} {kx : St → Prop} (hk : ∀ (S25 : St), kx S25 → MW Z e cX7_scrape 7 RX7 4 106 [(0, .ref (e.2.2.1 49)), (1, .int f12)] [] S25) : ∀ (n : Nat) (S10 : St) (v11 : Int32), X7_scrape_L39 f12 kx n S10 v11 → MW Z e cX7_scrape 7 RX7 4 39 [(0, .ref (e.2.2.1 49)), (1, .int f12), (2, .int v11)] [] S10 := by
  intro n
  induction n with
  | zero =>
    intro S10 v11 h
    exact h.elim
  | succ n ih =>
    intro S10 v11 h
    rw [X7_scrape_L39] at h
    refine m_iload_n dX7_scrape_39 2 rfl rfl ?_
    refine m_aload_n dX7_scrape_40 0 rfl rfl ?_
    refine m_get 49 15 (o_49 e _) rfl inlX7 (by decide) q24_7 rfl dX7_scrape_41 ?_
    refine m_icmp_ge (tgt := 106) dX7_scrape_44 (by decide) (fun z => ?_) (fun z => ?_)
    · replace h := h.1 z
      refine m_loc [0, 1] rfl ?_
      exact hk S10 h
    · replace h := h.2 z
      refine m_aload_n dX7_scrape_47 0 rfl rfl ?_
      refine m_iload_n dX7_scrape_48 2 rfl rfl ?_
      refine m_callV 49 [.int v11] (c_X7_isWay h) (o_49 e _) rfl rfl q24_12 q24_13 q24_14 q1_5 q24_15 t_X7_isWay rfl (by omega) (by decide) (Nat.le_of_ble_eq_true rfl) rfl dX7_scrape_49 (kI (P := MW Z e cX7_scrape 7 RX7 4 52 [(0, .ref (e.2.2.1 49)), (1, .int f12), (2, .int v11)]) (fun r13 S14 h => ?_))
      refine m_istore_n (lv2 := [(3, .int r13), (0, .ref (e.2.2.1 49)), (1, .int f12), (2, .int v11)]) dX7_scrape_52 rfl (by decide) rfl ?_
      refine m_iconst (v := 0) dX7_scrape_53 (by decide) ?_
      refine m_istore (lv2 := [(4, .int (0 : Int32)), (3, .int r13), (0, .ref (e.2.2.1 49)), (1, .int f12), (2, .int v11)]) dX7_scrape_54 (by decide) rfl ?_
      obtain ⟨n, h⟩ := h
      refine m_loc [2, 3, 4, 1, 0] rfl ?_
      refine l_X7_scrape_L56 (fun S23 h => ?_) n S14 (0 : Int32) h
      obtain ⟨x24, ex24⟩ : ∃ y : Int32, y = v11 + (1 : Int32) := ⟨_, rfl⟩
      replace h := h x24 ex24
      refine m_iinc (v := x24) (lv2 := [(2, .int x24), (0, .ref (e.2.2.1 49)), (1, .int f12)]) dX7_scrape_100 2 rfl ex24.symm (by decide) rfl ?_
      refine m_goto (tgt := 39) dX7_scrape_103 (by decide) ?_
      refine m_loc [1, 2, 0] rfl ?_
      exact ih S23 x24 h
set_option maxRecDepth 100000 in
set_option maxHeartbeats 4000000 in
theorem l_X7_scrape_L131 {Z : Zt} {e : GE} {S38 : St} {f34 : Int32} {f35 : Int32} {f36 : Int32} {f37 : Int32} {kx : Int32 → Prop} (hk : ∀ (v42 : Int32), kx v42 → MW Z e cX7_scrape 7 RX7 4 200 [(0, .ref (e.2.2.1 49)), (1, .int f34), (2, .int f35), (3, .int f36), (4, .int f37), (5, .int v42)] [] S38) : ∀ (n : Nat) (v32 : Int32) (v33 : Int32), X7_scrape_L131 S38 f34 f35 f36 f37 kx n v32 v33 → MW Z e cX7_scrape 7 RX7 4 131 [(0, .ref (e.2.2.1 49)), (1, .int f34), (2, .int f35), (3, .int f36), (4, .int f37), (5, .int v32), (6, .int v33)] [] S38 := by
  intro n
  induction n with
  | zero =>
    intro v32 v33 h
    exact h.elim
  | succ n ih =>
    intro v32 v33 h
    rw [X7_scrape_L131] at h
    refine m_iload dX7_scrape_131 6 rfl ?_
    refine m_sipush (v := 400) dX7_scrape_133 (by decide) ?_
    refine m_icmp_ge (tgt := 200) dX7_scrape_136 (by decide) (fun z => ?_) (fun z => ?_)
    · replace h := h.1 z
      refine m_loc [0, 1, 2, 3, 4, 5] rfl ?_
      exact hk v32 h
    · replace h := h.2 z
      refine m_aload_n dX7_scrape_139 0 rfl rfl ?_
      refine m_get 49 5 (o_49 e _) rfl inlX7 (by decide) q5_17 rfl dX7_scrape_140 ?_
      refine m_bipush (v := 49) dX7_scrape_143 (by decide) ?_
      refine m_iload dX7_scrape_145 4 rfl ?_
      refine m_iadd dX7_scrape_147 ?_
      refine m_iald 53 (a_53 e _) h.1 dX7_scrape_148 ?_
      replace h := h.2
      refine m_bipush (v := -9) dX7_scrape_149 (by decide) ?_
      refine m_icmp_ne (tgt := 200) dX7_scrape_151 (by decide) (fun z => ?_) (fun z => ?_)
      · replace h := h.1 z
        refine m_loc [0, 1, 2, 3, 4, 5] rfl ?_
        exact hk v32 h
      · replace h := h.2 z
        refine m_aload_n dX7_scrape_154 0 rfl rfl ?_
        refine m_get 49 16 (o_49 e _) rfl inlX7 (by decide) q5_23 rfl dX7_scrape_155 ?_
        refine m_sipush (v := 400) dX7_scrape_158 (by decide) ?_
        refine m_iload dX7_scrape_161 4 rfl ?_
        refine m_imul dX7_scrape_163 ?_
        refine m_iload dX7_scrape_164 6 rfl ?_
        refine m_iadd dX7_scrape_166 ?_
        refine m_iald 59 (a_59 e _) h.1 dX7_scrape_167 ?_
        replace h := h.2
        refine m_iload dX7_scrape_168 5 rfl ?_
        refine m_icmp_le (tgt := 190) dX7_scrape_170 (by decide) (fun z => ?_) (fun z => ?_)
        · replace h := h.1 z
          refine m_iload dX7_scrape_190 5 rfl ?_
          refine m_istore (lv2 := [(5, .int v32), (0, .ref (e.2.2.1 49)), (1, .int f34), (2, .int f35), (3, .int f36), (4, .int f37), (6, .int v33)]) dX7_scrape_192 (by decide) rfl ?_
          obtain ⟨x39, ex39⟩ : ∃ y : Int32, y = v33 + (1 : Int32) := ⟨_, rfl⟩
          replace h := h x39 ex39
          refine m_iinc (v := x39) (lv2 := [(6, .int x39), (5, .int v32), (0, .ref (e.2.2.1 49)), (1, .int f34), (2, .int f35), (3, .int f36), (4, .int f37)]) dX7_scrape_194 6 rfl ex39.symm (by decide) rfl ?_
          refine m_goto (tgt := 131) dX7_scrape_197 (by decide) ?_
          refine m_loc [2, 3, 4, 5, 6, 1, 0] rfl ?_
          exact ih v32 x39 h
        · replace h := h.2 z
          refine m_aload_n dX7_scrape_173 0 rfl rfl ?_
          refine m_get 49 16 (o_49 e _) rfl inlX7 (by decide) q5_23 rfl dX7_scrape_174 ?_
          refine m_sipush (v := 400) dX7_scrape_177 (by decide) ?_
          refine m_iload dX7_scrape_180 4 rfl ?_
          refine m_imul dX7_scrape_182 ?_
          refine m_iload dX7_scrape_183 6 rfl ?_
          refine m_iadd dX7_scrape_185 ?_
          refine m_iald 59 (a_59 e _) h.1 dX7_scrape_186 ?_
          replace h := h.2
          refine m_goto (tgt := 192) dX7_scrape_187 (by decide) ?_
          refine m_topi (fun x40 ex40 => ?_)
          replace h := h x40 ex40
          refine m_istore (lv2 := [(5, .int x40), (0, .ref (e.2.2.1 49)), (1, .int f34), (2, .int f35), (3, .int f36), (4, .int f37), (6, .int v33)]) dX7_scrape_192 (by decide) rfl ?_
          obtain ⟨x41, ex41⟩ : ∃ y : Int32, y = v33 + (1 : Int32) := ⟨_, rfl⟩
          replace h := h x41 ex41
          refine m_iinc (v := x41) (lv2 := [(6, .int x41), (5, .int x40), (0, .ref (e.2.2.1 49)), (1, .int f34), (2, .int f35), (3, .int f36), (4, .int f37)]) dX7_scrape_194 6 rfl ex41.symm (by decide) rfl ?_
          refine m_goto (tgt := 131) dX7_scrape_197 (by decide) ?_
          refine m_loc [2, 3, 4, 5, 6, 1, 0] rfl ?_
          exact ih x40 x41 h
set_option maxRecDepth 100000 in
set_option maxHeartbeats 4000000 in
theorem l_X7_scrape_L114 {Z : Zt} {e : GE} {S31 : St} {f30 : Int32} {kx : Int32 → Int32 → Prop} (hk : ∀ (v51 : Int32) (v52 : Int32), kx v51 v52 → MW Z e cX7_scrape 7 RX7 4 254 [(1, .int f30), (2, .int v51), (3, .int v52)] [] S31) : ∀ (n : Nat) (v27 : Int32) (v28 : Int32) (v29 : Int32), X7_scrape_L114 S31 f30 kx n v27 v28 v29 → MW Z e cX7_scrape 7 RX7 4 114 [(0, .ref (e.2.2.1 49)), (1, .int f30), (2, .int v27), (3, .int v28), (4, .int v29)] [] S31 := by
  intro n
  induction n with
  | zero =>
    intro v27 v28 v29 h
    exact h.elim
  | succ n ih =>
    intro v27 v28 v29 h
    rw [X7_scrape_L114] at h
    refine m_iload dX7_scrape_114 4 rfl ?_
    refine m_aload_n dX7_scrape_116 0 rfl rfl ?_
    refine m_get 49 3 (o_49 e _) rfl inlX7 (by decide) q5_15 rfl dX7_scrape_117 ?_
    refine m_iconst (v := 0) dX7_scrape_120 (by decide) ?_
    refine m_iald 51 (a_51 e _) h.1 dX7_scrape_121 ?_
    replace h := h.2
    refine m_icmp_ge (tgt := 254) dX7_scrape_122 (by decide) (fun z => ?_) (fun z => ?_)
    · replace h := h.1 z
      refine m_loc [1, 2, 3] rfl ?_
      exact hk v27 v28 h
    · replace h := h.2 z
      refine m_iconst (v := 0) dX7_scrape_125 (by decide) ?_
      refine m_istore (lv2 := [(5, .int (0 : Int32)), (0, .ref (e.2.2.1 49)), (1, .int f30), (2, .int v27), (3, .int v28), (4, .int v29)]) dX7_scrape_126 (by decide) rfl ?_
      refine m_iconst (v := 0) dX7_scrape_128 (by decide) ?_
      refine m_istore (lv2 := [(6, .int (0 : Int32)), (5, .int (0 : Int32)), (0, .ref (e.2.2.1 49)), (1, .int f30), (2, .int v27), (3, .int v28), (4, .int v29)]) dX7_scrape_129 (by decide) rfl ?_
      obtain ⟨n, h⟩ := h
      refine m_loc [2, 3, 4, 5, 6, 1, 0] rfl ?_
      refine l_X7_scrape_L131 (fun v43 h => ?_) n (0 : Int32) (0 : Int32) h
      refine m_iload dX7_scrape_200 5 rfl ?_
      obtain ⟨J44, eJ44, h⟩ := jn h
      have kJ44 : ∀ (x45 : Int32), J44 x45 → MW Z e cX7_scrape 7 RX7 4 222 [(0, .ref (e.2.2.1 49)), (1, .int f30), (2, .int v27), (3, .int v28), (4, .int v29), (5, .int v43)] [.int x45] S31 := by
        intro x45 h
        rw [eJ44] at h
        refine m_istore (lv2 := [(6, .int x45), (0, .ref (e.2.2.1 49)), (1, .int f30), (2, .int v27), (3, .int v28), (4, .int v29), (5, .int v43)]) dX7_scrape_222 (by decide) rfl ?_
        refine m_iload dX7_scrape_224 0 rfl ?_
        obtain ⟨J46, eJ46, h⟩ := jn h
        have kJ46 : ∀ (x47 : Int32), J46 x47 → MW Z e cX7_scrape 7 RX7 4 235 [(0, .ref (e.2.2.1 49)), (1, .int f30), (3, .int v28), (4, .int v29), (5, .int v43), (6, .int x45)] [.int x47] S31 := by
          intro x47 h
          rw [eJ46] at h
          refine m_istore_n (lv2 := [(2, .int x47), (0, .ref (e.2.2.1 49)), (1, .int f30), (3, .int v28), (4, .int v29), (5, .int v43), (6, .int x45)]) dX7_scrape_235 rfl (by decide) rfl ?_
          refine m_iload dX7_scrape_236 6 rfl ?_
          refine m_if_eq (tgt := 246) dX7_scrape_238 (by decide) (fun z => ?_) (fun z => ?_)
          · replace h := h.1 z
            refine m_iload_n dX7_scrape_246 3 rfl rfl ?_
            refine m_istore_n (lv2 := [(3, .int v28), (2, .int x47), (0, .ref (e.2.2.1 49)), (1, .int f30), (4, .int v29), (5, .int v43), (6, .int x45)]) dX7_scrape_247 rfl (by decide) rfl ?_
            obtain ⟨x48, ex48⟩ : ∃ y : Int32, y = v29 + (1 : Int32) := ⟨_, rfl⟩
            replace h := h x48 ex48
            refine m_iinc (v := x48) (lv2 := [(4, .int x48), (3, .int v28), (2, .int x47), (0, .ref (e.2.2.1 49)), (1, .int f30), (5, .int v43), (6, .int x45)]) dX7_scrape_248 4 rfl ex48.symm (by decide) rfl ?_
            refine m_goto (tgt := 114) dX7_scrape_251 (by decide) ?_
            refine m_loc [3, 4, 2, 1, 0] rfl ?_
            exact ih x47 v28 x48 h
          · replace h := h.2 z
            refine m_iload dX7_scrape_241 5 rfl ?_
            refine m_goto (tgt := 247) dX7_scrape_243 (by decide) ?_
            refine m_istore_n (lv2 := [(3, .int v43), (2, .int x47), (0, .ref (e.2.2.1 49)), (1, .int f30), (4, .int v29), (5, .int v43), (6, .int x45)]) dX7_scrape_247 rfl (by decide) rfl ?_
            obtain ⟨x49, ex49⟩ : ∃ y : Int32, y = v29 + (1 : Int32) := ⟨_, rfl⟩
            replace h := h x49 ex49
            refine m_iinc (v := x49) (lv2 := [(4, .int x49), (3, .int v43), (2, .int x47), (0, .ref (e.2.2.1 49)), (1, .int f30), (5, .int v43), (6, .int x45)]) dX7_scrape_248 4 rfl ex49.symm (by decide) rfl ?_
            refine m_goto (tgt := 114) dX7_scrape_251 (by decide) ?_
            refine m_loc [3, 4, 2, 1, 0] rfl ?_
            exact ih x47 v43 x49 h
        refine m_if_eq (tgt := 234) dX7_scrape_226 (by decide) (fun z => ?_) (fun z => ?_)
        · replace h := h.1 z
          refine m_iload_n dX7_scrape_234 3 rfl rfl ?_
          refine m_loc [1, 2, 4, 5, 6, 0] rfl ?_
          exact kJ46 v27 h
        · replace h := h.2 z
          refine m_iload dX7_scrape_229 5 rfl ?_
          refine m_goto (tgt := 235) dX7_scrape_231 (by decide) ?_
          refine m_loc [1, 2, 4, 5, 6, 0] rfl ?_
          exact kJ46 v29 h
      obtain ⟨J50, eJ50, h⟩ := jn h
      have kJ50 : J50 → MW Z e cX7_scrape 7 RX7 4 221 [(0, .ref (e.2.2.1 49)), (1, .int f30), (2, .int v27), (3, .int v28), (4, .int v29), (5, .int v43)] [] S31 := by
        intro  h
        rw [eJ50] at h
        refine m_iconst (v := 0) dX7_scrape_221 (by decide) ?_
        exact kJ44 (0 : Int32) h
      refine m_if_le (tgt := 221) dX7_scrape_202 (by decide) (fun z => ?_) (fun z => ?_)
      · replace h := h.1 z
        exact kJ50  h
      · replace h := h.2 z
        refine m_iload_n dX7_scrape_205 2 rfl rfl ?_
        refine m_bipush (v := -9) dX7_scrape_206 (by decide) ?_
        refine m_icmp_eq (tgt := 217) dX7_scrape_208 (by decide) (fun z => ?_) (fun z => ?_)
        · replace h := h.1 z
          refine m_iconst (v := 1) dX7_scrape_217 (by decide) ?_
          refine m_goto (tgt := 222) dX7_scrape_218 (by decide) ?_
          exact kJ44 (1 : Int32) h
        · replace h := h.2 z
          refine m_iload dX7_scrape_211 5 rfl ?_
          refine m_iload_n dX7_scrape_213 3 rfl rfl ?_
          refine m_icmp_ge (tgt := 221) dX7_scrape_214 (by decide) (fun z => ?_) (fun z => ?_)
          · replace h := h.1 z
            exact kJ50  h
          · replace h := h.2 z
            refine m_iconst (v := 1) dX7_scrape_217 (by decide) ?_
            refine m_goto (tgt := 222) dX7_scrape_218 (by decide) ?_
            exact kJ44 (1 : Int32) h
set_option maxRecDepth 100000 in
set_option maxHeartbeats 4000000 in
theorem c_X7_scrape {e : GE} {S0 : St} {p1 : Int32} {Q : Int32 → St → Prop} (h : w_X7_scrape S0 p1 Q) : CT e yX7_scrape cX7_scrape 7 (some .int) 4 [.ref (e.2.2.1 49), .int p1] S0 (pI Q) := by
  refine CT.of (by decide) (Nat.le_of_ble_eq_true rfl) (fun Z hR => ?_)
  rw [w_X7_scrape] at h
  show MW Z e cX7_scrape 7 RX7 4 0 [(0, .ref (e.2.2.1 49)), (1, .int p1)] [] S0
  refine m_iload_n dX7_scrape_0 1 rfl rfl ?_
  refine m_iconst (v := 0) dX7_scrape_1 (by decide) ?_
  refine m_iconst (v := 1) dX7_scrape_2 (by decide) ?_
  refine m_callS [.int p1, .int (0 : Int32), .int (1 : Int32)] (c_X7_in h) q6_8 q6_9 q1_5 q6_10 t_X7_in rfl (by omega) (by decide) (Nat.le_of_ble_eq_true rfl) rfl dX7_scrape_3 (kR (P := MW Z e cX7_scrape 7 RX7 4 6 [(0, .ref (e.2.2.1 49)), (1, .int p1)]) (fun r1 h => ?_))
  refine m_if_ne (tgt := 11) dX7_scrape_6 (by decide) (fun z => ?_) (fun z => ?_)
  · replace h := h.1 z
    refine m_aload_n dX7_scrape_11 0 rfl rfl ?_
    refine m_callV 49 [] (c_X7_lays h) (o_49 e _) rfl rfl q24_8 q24_9 q24_10 q1_5 q24_11 t_X7_lays rfl (by omega) (by decide) (Nat.le_of_ble_eq_true rfl) rfl dX7_scrape_12 (kV (P := MW Z e cX7_scrape 7 RX7 4 15 [(0, .ref (e.2.2.1 49)), (1, .int p1)]) (fun S2 h => ?_))
    refine m_iconst (v := 0) dX7_scrape_15 (by decide) ?_
    refine m_istore_n (lv2 := [(2, .int (0 : Int32)), (0, .ref (e.2.2.1 49)), (1, .int p1)]) dX7_scrape_16 rfl (by decide) rfl ?_
    obtain ⟨n, h⟩ := h
    refine m_loc [1, 2, 0] rfl ?_
    refine l_X7_scrape_L17 (fun S9 h => ?_) n S2 (0 : Int32) h
    refine m_iconst (v := 0) dX7_scrape_37 (by decide) ?_
    refine m_istore_n (lv2 := [(2, .int (0 : Int32)), (0, .ref (e.2.2.1 49)), (1, .int p1)]) dX7_scrape_38 rfl (by decide) rfl ?_
    obtain ⟨n, h⟩ := h
    refine m_loc [1, 2, 0] rfl ?_
    refine l_X7_scrape_L39 (fun S26 h => ?_) n S9 (0 : Int32) h
    refine m_bipush (v := -9) dX7_scrape_106 (by decide) ?_
    refine m_istore_n (lv2 := [(2, .int (-9 : Int32)), (0, .ref (e.2.2.1 49)), (1, .int p1)]) dX7_scrape_108 rfl (by decide) rfl ?_
    refine m_iconst (v := 0) dX7_scrape_109 (by decide) ?_
    refine m_istore_n (lv2 := [(3, .int (0 : Int32)), (2, .int (-9 : Int32)), (0, .ref (e.2.2.1 49)), (1, .int p1)]) dX7_scrape_110 rfl (by decide) rfl ?_
    refine m_iconst (v := 0) dX7_scrape_111 (by decide) ?_
    refine m_istore (lv2 := [(4, .int (0 : Int32)), (3, .int (0 : Int32)), (2, .int (-9 : Int32)), (0, .ref (e.2.2.1 49)), (1, .int p1)]) dX7_scrape_112 (by decide) rfl ?_
    obtain ⟨n, h⟩ := h
    refine m_loc [3, 4, 2, 1, 0] rfl ?_
    refine l_X7_scrape_L114 (fun v53 v54 h => ?_) n (-9 : Int32) (0 : Int32) (0 : Int32) h
    refine m_iload_n dX7_scrape_254 0 rfl rfl ?_
    refine m_if_eq (tgt := 264) dX7_scrape_255 (by decide) (fun z => ?_) (fun z => ?_)
    · replace h := h.1 z
      refine m_iload_n dX7_scrape_264 1 rfl rfl ?_
      refine m_goto (tgt := 269) dX7_scrape_265 (by decide) ?_
      exact m_iret hR ⟨_, rfl, h⟩ dX7_scrape_269
    · replace h := h.2 z
      refine m_iload_n dX7_scrape_258 1 rfl rfl ?_
      refine m_bipush (v := -9) dX7_scrape_259 (by decide) ?_
      refine m_icmp_ne (tgt := 268) dX7_scrape_261 (by decide) (fun z => ?_) (fun z => ?_)
      · replace h := h.1 z
        refine m_iload_n dX7_scrape_268 2 rfl rfl ?_
        exact m_iret hR ⟨_, rfl, h⟩ dX7_scrape_269
      · replace h := h.2 z
        refine m_iload_n dX7_scrape_264 1 rfl rfl ?_
        refine m_goto (tgt := 269) dX7_scrape_265 (by decide) ?_
        exact m_iret hR ⟨_, rfl, h⟩ dX7_scrape_269
  · replace h := h.2 z
    refine m_iconst (v := -1) dX7_scrape_9 (by decide) ?_
    exact m_iret hR ⟨_, rfl, h⟩ dX7_scrape_10
