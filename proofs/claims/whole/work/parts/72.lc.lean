set_option maxRecDepth 100000 in
set_option maxHeartbeats 4000000 in
theorem k_seen {Z : Zt} {e : GE} {b L : Nat} {xs : Nat → Int32} {x : Int32} {S : St} (hX : SX Z b L xs) (h1 : vp_in (x + 1) L) (h2 : vp_in (x + 2) L) (h3 : vp_in (x + 3) L) (h4 : vp_in (x + 4) L) (hI : INV S) (k : ∀ S2, INV S2 → MW Z e cL_law 4 RL 2000 871 [(0, .ref b), (1, .ref (e.2.2.1 0)), (2, .ref (e.2.2.1 49)), (3, .int x)] [] S2) : MW Z e cL_law 4 RL 2000 531 [(0, .ref b), (1, .ref (e.2.2.1 0)), (2, .ref (e.2.2.1 49)), (3, .int x)] [] S := by
  refine m_aload_n dL_law_531 1 rfl rfl ?_
  refine m_aload_n dL_law_532 0 rfl rfl ?_
  refine m_iload_n dL_law_533 3 rfl rfl ?_
  refine m_iconst (v := 1) dL_law_534 (by decide) ?_
  refine m_iadd dL_law_535 ?_
  refine m_sld hX h1 dL_law_536 ?_
  refine m_callV 0 [.int (xs (x + 1).toNatClampNeg)] (c_X6_seen (ok_seen hI _)) (o_0 e _) rfl rfl q21_21 q21_22 q21_23 q1_2 q22_0 t_X6_seen rfl (by omega) (by decide) (Nat.le_of_ble_eq_true rfl) rfl dL_law_537 (kR (P := MW Z e cL_law 4 RL 2000 540 [(0, .ref b), (1, .ref (e.2.2.1 0)), (2, .ref (e.2.2.1 49)), (3, .int x)]) (fun r0 h => ?_))
  refine m_aload_n dL_law_540 2 rfl rfl ?_
  refine m_aload_n dL_law_541 0 rfl rfl ?_
  refine m_iload_n dL_law_542 3 rfl rfl ?_
  refine m_iconst (v := 1) dL_law_543 (by decide) ?_
  refine m_iadd dL_law_544 ?_
  refine m_sld hX h1 dL_law_545 ?_
  refine m_callV 49 [.int (xs (x + 1).toNatClampNeg)] (c_X7_seen h) (o_49 e _) rfl rfl q22_1 q22_2 q22_3 q1_5 q22_4 t_X7_seen rfl (by omega) (by decide) (Nat.le_of_ble_eq_true rfl) rfl dL_law_546 (kR (P := MW Z e cL_law 4 RL 2000 549 [(0, .ref b), (1, .ref (e.2.2.1 0)), (2, .ref (e.2.2.1 49)), (3, .int x)]) (fun r1 h => ?_))
  exact m_icmp_eq (tgt := 871) dL_law_549 (by decide) (fun _ => k S hI) (fun z => absurd h z)

set_option maxRecDepth 100000 in
set_option maxHeartbeats 4000000 in
theorem k_fits {Z : Zt} {e : GE} {b L : Nat} {xs : Nat → Int32} {x : Int32} {S : St} (hX : SX Z b L xs) (h1 : vp_in (x + 1) L) (h2 : vp_in (x + 2) L) (h3 : vp_in (x + 3) L) (h4 : vp_in (x + 4) L) (hI : INV S) (k : ∀ S2, INV S2 → MW Z e cL_law 4 RL 2000 871 [(0, .ref b), (1, .ref (e.2.2.1 0)), (2, .ref (e.2.2.1 49)), (3, .int x)] [] S2) : MW Z e cL_law 4 RL 2000 554 [(0, .ref b), (1, .ref (e.2.2.1 0)), (2, .ref (e.2.2.1 49)), (3, .int x)] [] S := by
  refine m_aload_n dL_law_554 1 rfl rfl ?_
  refine m_callV 0 [] (c_X6_fits (ok_fits hI)) (o_0 e _) rfl rfl q22_5 q22_6 q22_7 q1_2 q22_8 t_X6_fits rfl (by omega) (by decide) (Nat.le_of_ble_eq_true rfl) rfl dL_law_555 (kI (P := MW Z e cL_law 4 RL 2000 558 [(0, .ref b), (1, .ref (e.2.2.1 0)), (2, .ref (e.2.2.1 49)), (3, .int x)]) (fun r0 S1 h => ?_))
  refine m_aload_n dL_law_558 2 rfl rfl ?_
  refine m_callV 49 [] (c_X7_fits h) (o_49 e _) rfl rfl q24_3 q24_4 q24_5 q1_5 q24_6 t_X7_fits rfl (by omega) (by decide) (Nat.le_of_ble_eq_true rfl) rfl dL_law_559 (kI (P := MW Z e cL_law 4 RL 2000 562 [(0, .ref b), (1, .ref (e.2.2.1 0)), (2, .ref (e.2.2.1 49)), (3, .int x)]) (fun r1 S2 h => ?_))
  exact m_icmp_eq (tgt := 871) dL_law_562 (by decide) (fun _ => k S2 h.2) (fun z => absurd h.1 z)

set_option maxRecDepth 100000 in
set_option maxHeartbeats 4000000 in
theorem k_sure {Z : Zt} {e : GE} {b L : Nat} {xs : Nat → Int32} {x : Int32} {S : St} (hX : SX Z b L xs) (h1 : vp_in (x + 1) L) (h2 : vp_in (x + 2) L) (h3 : vp_in (x + 3) L) (h4 : vp_in (x + 4) L) (hI : INV S) (k : ∀ S2, INV S2 → MW Z e cL_law 4 RL 2000 871 [(0, .ref b), (1, .ref (e.2.2.1 0)), (2, .ref (e.2.2.1 49)), (3, .int x)] [] S2) : MW Z e cL_law 4 RL 2000 567 [(0, .ref b), (1, .ref (e.2.2.1 0)), (2, .ref (e.2.2.1 49)), (3, .int x)] [] S := by
  refine m_aload_n dL_law_567 1 rfl rfl ?_
  refine m_aload_n dL_law_568 0 rfl rfl ?_
  refine m_iload_n dL_law_569 3 rfl rfl ?_
  refine m_iconst (v := 1) dL_law_570 (by decide) ?_
  refine m_iadd dL_law_571 ?_
  refine m_sld hX h1 dL_law_572 ?_
  refine m_callV 0 [.int (xs (x + 1).toNatClampNeg)] (c_X6_sure (ok_sure hI _)) (o_0 e _) rfl rfl q24_20 q24_21 q24_22 q1_2 q24_23 t_X6_sure rfl (by omega) (by decide) (Nat.le_of_ble_eq_true rfl) rfl dL_law_573 (kI (P := MW Z e cL_law 4 RL 2000 576 [(0, .ref b), (1, .ref (e.2.2.1 0)), (2, .ref (e.2.2.1 49)), (3, .int x)]) (fun r0 S1 h => ?_))
  refine m_aload_n dL_law_576 2 rfl rfl ?_
  refine m_aload_n dL_law_577 0 rfl rfl ?_
  refine m_iload_n dL_law_578 3 rfl rfl ?_
  refine m_iconst (v := 1) dL_law_579 (by decide) ?_
  refine m_iadd dL_law_580 ?_
  refine m_sld hX h1 dL_law_581 ?_
  refine m_callV 49 [.int (xs (x + 1).toNatClampNeg)] (c_X7_sure h) (o_49 e _) rfl rfl q25_9 q25_10 q25_11 q1_5 q25_12 t_X7_sure rfl (by omega) (by decide) (Nat.le_of_ble_eq_true rfl) rfl dL_law_582 (kI (P := MW Z e cL_law 4 RL 2000 585 [(0, .ref b), (1, .ref (e.2.2.1 0)), (2, .ref (e.2.2.1 49)), (3, .int x)]) (fun r1 S2 h => ?_))
  exact m_icmp_eq (tgt := 871) dL_law_585 (by decide) (fun _ => k S2 h.2) (fun z => absurd h.1 z)

set_option maxRecDepth 100000 in
set_option maxHeartbeats 4000000 in
theorem k_odds {Z : Zt} {e : GE} {b L : Nat} {xs : Nat → Int32} {x : Int32} {S : St} (hX : SX Z b L xs) (h1 : vp_in (x + 1) L) (h2 : vp_in (x + 2) L) (h3 : vp_in (x + 3) L) (h4 : vp_in (x + 4) L) (hI : INV S) (k : ∀ S2, INV S2 → MW Z e cL_law 4 RL 2000 871 [(0, .ref b), (1, .ref (e.2.2.1 0)), (2, .ref (e.2.2.1 49)), (3, .int x)] [] S2) : MW Z e cL_law 4 RL 2000 590 [(0, .ref b), (1, .ref (e.2.2.1 0)), (2, .ref (e.2.2.1 49)), (3, .int x)] [] S := by
  refine m_aload_n dL_law_590 1 rfl rfl ?_
  refine m_aload_n dL_law_591 0 rfl rfl ?_
  refine m_iload_n dL_law_592 3 rfl rfl ?_
  refine m_iconst (v := 1) dL_law_593 (by decide) ?_
  refine m_iadd dL_law_594 ?_
  refine m_sld hX h1 dL_law_595 ?_
  refine m_aload_n dL_law_596 0 rfl rfl ?_
  refine m_iload_n dL_law_597 3 rfl rfl ?_
  refine m_iconst (v := 2) dL_law_598 (by decide) ?_
  refine m_iadd dL_law_599 ?_
  refine m_sld hX h2 dL_law_600 ?_
  refine m_aload_n dL_law_601 0 rfl rfl ?_
  refine m_iload_n dL_law_602 3 rfl rfl ?_
  refine m_iconst (v := 3) dL_law_603 (by decide) ?_
  refine m_iadd dL_law_604 ?_
  refine m_sld hX h3 dL_law_605 ?_
  refine m_callV 0 [.int (xs (x + 1).toNatClampNeg), .int (xs (x + 2).toNatClampNeg), .int (xs (x + 3).toNatClampNeg)] (c_X6_odds (ok_odds hI _ _ _)) (o_0 e _) rfl rfl q25_16 q25_17 q25_18 q1_2 q25_19 t_X6_odds rfl (by omega) (by decide) (Nat.le_of_ble_eq_true rfl) rfl dL_law_606 (kI (P := MW Z e cL_law 4 RL 2000 609 [(0, .ref b), (1, .ref (e.2.2.1 0)), (2, .ref (e.2.2.1 49)), (3, .int x)]) (fun r0 S1 h => ?_))
  refine m_aload_n dL_law_609 2 rfl rfl ?_
  refine m_aload_n dL_law_610 0 rfl rfl ?_
  refine m_iload_n dL_law_611 3 rfl rfl ?_
  refine m_iconst (v := 1) dL_law_612 (by decide) ?_
  refine m_iadd dL_law_613 ?_
  refine m_sld hX h1 dL_law_614 ?_
  refine m_aload_n dL_law_615 0 rfl rfl ?_
  refine m_iload_n dL_law_616 3 rfl rfl ?_
  refine m_iconst (v := 2) dL_law_617 (by decide) ?_
  refine m_iadd dL_law_618 ?_
  refine m_sld hX h2 dL_law_619 ?_
  refine m_aload_n dL_law_620 0 rfl rfl ?_
  refine m_iload_n dL_law_621 3 rfl rfl ?_
  refine m_iconst (v := 3) dL_law_622 (by decide) ?_
  refine m_iadd dL_law_623 ?_
  refine m_sld hX h3 dL_law_624 ?_
  refine m_callV 49 [.int (xs (x + 1).toNatClampNeg), .int (xs (x + 2).toNatClampNeg), .int (xs (x + 3).toNatClampNeg)] (c_X7_odds h) (o_49 e _) rfl rfl q25_23 q26_0 q26_1 q1_5 q26_2 t_X7_odds rfl (by omega) (by decide) (Nat.le_of_ble_eq_true rfl) rfl dL_law_625 (kI (P := MW Z e cL_law 4 RL 2000 628 [(0, .ref b), (1, .ref (e.2.2.1 0)), (2, .ref (e.2.2.1 49)), (3, .int x)]) (fun r1 S2 h => ?_))
  exact m_icmp_eq (tgt := 871) dL_law_628 (by decide) (fun _ => k S2 h.2) (fun z => absurd h.1 z)

set_option maxRecDepth 100000 in
set_option maxHeartbeats 4000000 in
theorem k_claim {Z : Zt} {e : GE} {b L : Nat} {xs : Nat → Int32} {x : Int32} {S : St} (hX : SX Z b L xs) (h1 : vp_in (x + 1) L) (h2 : vp_in (x + 2) L) (h3 : vp_in (x + 3) L) (h4 : vp_in (x + 4) L) (hI : INV S) (k : ∀ S2, INV S2 → MW Z e cL_law 4 RL 2000 871 [(0, .ref b), (1, .ref (e.2.2.1 0)), (2, .ref (e.2.2.1 49)), (3, .int x)] [] S2) : MW Z e cL_law 4 RL 2000 633 [(0, .ref b), (1, .ref (e.2.2.1 0)), (2, .ref (e.2.2.1 49)), (3, .int x)] [] S := by
  refine m_aload_n dL_law_633 1 rfl rfl ?_
  refine m_aload_n dL_law_634 0 rfl rfl ?_
  refine m_iload_n dL_law_635 3 rfl rfl ?_
  refine m_iconst (v := 1) dL_law_636 (by decide) ?_
  refine m_iadd dL_law_637 ?_
  refine m_sld hX h1 dL_law_638 ?_
  refine m_aload_n dL_law_639 0 rfl rfl ?_
  refine m_iload_n dL_law_640 3 rfl rfl ?_
  refine m_iconst (v := 2) dL_law_641 (by decide) ?_
  refine m_iadd dL_law_642 ?_
  refine m_sld hX h2 dL_law_643 ?_
  refine m_aload_n dL_law_644 0 rfl rfl ?_
  refine m_iload_n dL_law_645 3 rfl rfl ?_
  refine m_iconst (v := 3) dL_law_646 (by decide) ?_
  refine m_iadd dL_law_647 ?_
  refine m_sld hX h3 dL_law_648 ?_
  refine m_callV 0 [.int (xs (x + 1).toNatClampNeg), .int (xs (x + 2).toNatClampNeg), .int (xs (x + 3).toNatClampNeg)] (c_X6_claim (ok_claim hI _ _ _)) (o_0 e _) rfl rfl q26_3 q26_4 q26_5 q1_2 q26_6 t_X6_claim rfl (by omega) (by decide) (Nat.le_of_ble_eq_true rfl) rfl dL_law_649 (kI (P := MW Z e cL_law 4 RL 2000 652 [(0, .ref b), (1, .ref (e.2.2.1 0)), (2, .ref (e.2.2.1 49)), (3, .int x)]) (fun r0 S1 h => ?_))
  refine m_aload_n dL_law_652 2 rfl rfl ?_
  refine m_aload_n dL_law_653 0 rfl rfl ?_
  refine m_iload_n dL_law_654 3 rfl rfl ?_
  refine m_iconst (v := 1) dL_law_655 (by decide) ?_
  refine m_iadd dL_law_656 ?_
  refine m_sld hX h1 dL_law_657 ?_
  refine m_aload_n dL_law_658 0 rfl rfl ?_
  refine m_iload_n dL_law_659 3 rfl rfl ?_
  refine m_iconst (v := 2) dL_law_660 (by decide) ?_
  refine m_iadd dL_law_661 ?_
  refine m_sld hX h2 dL_law_662 ?_
  refine m_aload_n dL_law_663 0 rfl rfl ?_
  refine m_iload_n dL_law_664 3 rfl rfl ?_
  refine m_iconst (v := 3) dL_law_665 (by decide) ?_
  refine m_iadd dL_law_666 ?_
  refine m_sld hX h3 dL_law_667 ?_
  refine m_callV 49 [.int (xs (x + 1).toNatClampNeg), .int (xs (x + 2).toNatClampNeg), .int (xs (x + 3).toNatClampNeg)] (c_X7_claim h) (o_49 e _) rfl rfl q26_15 q26_16 q26_17 q1_5 q26_18 t_X7_claim rfl (by omega) (by decide) (Nat.le_of_ble_eq_true rfl) rfl dL_law_668 (kI (P := MW Z e cL_law 4 RL 2000 671 [(0, .ref b), (1, .ref (e.2.2.1 0)), (2, .ref (e.2.2.1 49)), (3, .int x)]) (fun r1 S2 h => ?_))
  exact m_icmp_eq (tgt := 871) dL_law_671 (by decide) (fun _ => k S2 h.2) (fun z => absurd h.1 z)

set_option maxRecDepth 100000 in
set_option maxHeartbeats 4000000 in
theorem k_saves {Z : Zt} {e : GE} {b L : Nat} {xs : Nat → Int32} {x : Int32} {S : St} (hX : SX Z b L xs) (h1 : vp_in (x + 1) L) (h2 : vp_in (x + 2) L) (h3 : vp_in (x + 3) L) (h4 : vp_in (x + 4) L) (hI : INV S) (k : ∀ S2, INV S2 → MW Z e cL_law 4 RL 2000 871 [(0, .ref b), (1, .ref (e.2.2.1 0)), (2, .ref (e.2.2.1 49)), (3, .int x)] [] S2) : MW Z e cL_law 4 RL 2000 676 [(0, .ref b), (1, .ref (e.2.2.1 0)), (2, .ref (e.2.2.1 49)), (3, .int x)] [] S := by
  refine m_aload_n dL_law_676 1 rfl rfl ?_
  refine m_aload_n dL_law_677 0 rfl rfl ?_
  refine m_iload_n dL_law_678 3 rfl rfl ?_
  refine m_iconst (v := 1) dL_law_679 (by decide) ?_
  refine m_iadd dL_law_680 ?_
  refine m_sld hX h1 dL_law_681 ?_
  refine m_aload_n dL_law_682 0 rfl rfl ?_
  refine m_iload_n dL_law_683 3 rfl rfl ?_
  refine m_iconst (v := 2) dL_law_684 (by decide) ?_
  refine m_iadd dL_law_685 ?_
  refine m_sld hX h2 dL_law_686 ?_
  refine m_aload_n dL_law_687 0 rfl rfl ?_
  refine m_iload_n dL_law_688 3 rfl rfl ?_
  refine m_iconst (v := 3) dL_law_689 (by decide) ?_
  refine m_iadd dL_law_690 ?_
  refine m_sld hX h3 dL_law_691 ?_
  refine m_callV 0 [.int (xs (x + 1).toNatClampNeg), .int (xs (x + 2).toNatClampNeg), .int (xs (x + 3).toNatClampNeg)] (c_X6_saves (ok_saves hI _ _ _)) (o_0 e _) rfl rfl q27_3 q27_4 q27_5 q1_2 q27_6 t_X6_saves rfl (by omega) (by decide) (Nat.le_of_ble_eq_true rfl) rfl dL_law_692 (kI (P := MW Z e cL_law 4 RL 2000 695 [(0, .ref b), (1, .ref (e.2.2.1 0)), (2, .ref (e.2.2.1 49)), (3, .int x)]) (fun r0 S1 h => ?_))
  refine m_aload_n dL_law_695 2 rfl rfl ?_
  refine m_aload_n dL_law_696 0 rfl rfl ?_
  refine m_iload_n dL_law_697 3 rfl rfl ?_
  refine m_iconst (v := 1) dL_law_698 (by decide) ?_
  refine m_iadd dL_law_699 ?_
  refine m_sld hX h1 dL_law_700 ?_
  refine m_aload_n dL_law_701 0 rfl rfl ?_
  refine m_iload_n dL_law_702 3 rfl rfl ?_
  refine m_iconst (v := 2) dL_law_703 (by decide) ?_
  refine m_iadd dL_law_704 ?_
  refine m_sld hX h2 dL_law_705 ?_
  refine m_aload_n dL_law_706 0 rfl rfl ?_
  refine m_iload_n dL_law_707 3 rfl rfl ?_
  refine m_iconst (v := 3) dL_law_708 (by decide) ?_
  refine m_iadd dL_law_709 ?_
  refine m_sld hX h3 dL_law_710 ?_
  refine m_callV 49 [.int (xs (x + 1).toNatClampNeg), .int (xs (x + 2).toNatClampNeg), .int (xs (x + 3).toNatClampNeg)] (c_X7_saves h) (o_49 e _) rfl rfl q27_7 q27_8 q27_9 q1_5 q27_10 t_X7_saves rfl (by omega) (by decide) (Nat.le_of_ble_eq_true rfl) rfl dL_law_711 (kI (P := MW Z e cL_law 4 RL 2000 714 [(0, .ref b), (1, .ref (e.2.2.1 0)), (2, .ref (e.2.2.1 49)), (3, .int x)]) (fun r1 S2 h => ?_))
  exact m_icmp_eq (tgt := 871) dL_law_714 (by decide) (fun _ => k S2 h.2) (fun z => absurd h.1 z)

set_option maxRecDepth 100000 in
set_option maxHeartbeats 4000000 in
theorem k_scrape {Z : Zt} {e : GE} {b L : Nat} {xs : Nat → Int32} {x : Int32} {S : St} (hX : SX Z b L xs) (h1 : vp_in (x + 1) L) (h2 : vp_in (x + 2) L) (h3 : vp_in (x + 3) L) (h4 : vp_in (x + 4) L) (hI : INV S) (k : ∀ S2, INV S2 → MW Z e cL_law 4 RL 2000 871 [(0, .ref b), (1, .ref (e.2.2.1 0)), (2, .ref (e.2.2.1 49)), (3, .int x)] [] S2) : MW Z e cL_law 4 RL 2000 719 [(0, .ref b), (1, .ref (e.2.2.1 0)), (2, .ref (e.2.2.1 49)), (3, .int x)] [] S := by
  refine m_aload_n dL_law_719 1 rfl rfl ?_
  refine m_aload_n dL_law_720 0 rfl rfl ?_
  refine m_iload_n dL_law_721 3 rfl rfl ?_
  refine m_iconst (v := 1) dL_law_722 (by decide) ?_
  refine m_iadd dL_law_723 ?_
  refine m_sld hX h1 dL_law_724 ?_
  refine m_callV 0 [.int (xs (x + 1).toNatClampNeg)] (c_X6_scrape (ok_scrape hI _)) (o_0 e _) rfl rfl q27_11 q27_12 q27_13 q1_2 q27_14 t_X6_scrape rfl (by omega) (by decide) (Nat.le_of_ble_eq_true rfl) rfl dL_law_725 (kI (P := MW Z e cL_law 4 RL 2000 728 [(0, .ref b), (1, .ref (e.2.2.1 0)), (2, .ref (e.2.2.1 49)), (3, .int x)]) (fun r0 S1 h => ?_))
  refine m_aload_n dL_law_728 2 rfl rfl ?_
  refine m_aload_n dL_law_729 0 rfl rfl ?_
  refine m_iload_n dL_law_730 3 rfl rfl ?_
  refine m_iconst (v := 1) dL_law_731 (by decide) ?_
  refine m_iadd dL_law_732 ?_
  refine m_sld hX h1 dL_law_733 ?_
  refine m_callV 49 [.int (xs (x + 1).toNatClampNeg)] (c_X7_scrape h) (o_49 e _) rfl rfl q28_1 q28_2 q28_3 q1_5 q28_4 t_X7_scrape rfl (by omega) (by decide) (Nat.le_of_ble_eq_true rfl) rfl dL_law_734 (kI (P := MW Z e cL_law 4 RL 2000 737 [(0, .ref b), (1, .ref (e.2.2.1 0)), (2, .ref (e.2.2.1 49)), (3, .int x)]) (fun r1 S2 h => ?_))
  exact m_icmp_eq (tgt := 871) dL_law_737 (by decide) (fun _ => k S2 h.2) (fun z => absurd h.1 z)

set_option maxRecDepth 100000 in
set_option maxHeartbeats 4000000 in
theorem k_swaps {Z : Zt} {e : GE} {b L : Nat} {xs : Nat → Int32} {x : Int32} {S : St} (hX : SX Z b L xs) (h1 : vp_in (x + 1) L) (h2 : vp_in (x + 2) L) (h3 : vp_in (x + 3) L) (h4 : vp_in (x + 4) L) (hI : INV S) (k : ∀ S2, INV S2 → MW Z e cL_law 4 RL 2000 871 [(0, .ref b), (1, .ref (e.2.2.1 0)), (2, .ref (e.2.2.1 49)), (3, .int x)] [] S2) : MW Z e cL_law 4 RL 2000 742 [(0, .ref b), (1, .ref (e.2.2.1 0)), (2, .ref (e.2.2.1 49)), (3, .int x)] [] S := by
  refine m_aload_n dL_law_742 1 rfl rfl ?_
  refine m_callV 0 [] (c_X6_swaps (ok_swaps hI)) (o_0 e _) rfl rfl q28_5 q28_6 q28_7 q1_2 q28_8 t_X6_swaps rfl (by omega) (by decide) (Nat.le_of_ble_eq_true rfl) rfl dL_law_743 (kI (P := MW Z e cL_law 4 RL 2000 746 [(0, .ref b), (1, .ref (e.2.2.1 0)), (2, .ref (e.2.2.1 49)), (3, .int x)]) (fun r0 S1 h => ?_))
  refine m_aload_n dL_law_746 2 rfl rfl ?_
  refine m_callV 49 [] (c_X7_swaps h) (o_49 e _) rfl rfl q29_1 q29_2 q29_3 q1_5 q29_4 t_X7_swaps rfl (by omega) (by decide) (Nat.le_of_ble_eq_true rfl) rfl dL_law_747 (kI (P := MW Z e cL_law 4 RL 2000 750 [(0, .ref b), (1, .ref (e.2.2.1 0)), (2, .ref (e.2.2.1 49)), (3, .int x)]) (fun r1 S2 h => ?_))
  exact m_icmp_eq (tgt := 871) dL_law_750 (by decide) (fun _ => k S2 h.2) (fun z => absurd h.1 z)

set_option maxRecDepth 100000 in
set_option maxHeartbeats 4000000 in
theorem k_rate {Z : Zt} {e : GE} {b L : Nat} {xs : Nat → Int32} {x : Int32} {S : St} (hX : SX Z b L xs) (h1 : vp_in (x + 1) L) (h2 : vp_in (x + 2) L) (h3 : vp_in (x + 3) L) (h4 : vp_in (x + 4) L) (hI : INV S) (k : ∀ S2, INV S2 → MW Z e cL_law 4 RL 2000 871 [(0, .ref b), (1, .ref (e.2.2.1 0)), (2, .ref (e.2.2.1 49)), (3, .int x)] [] S2) : MW Z e cL_law 4 RL 2000 755 [(0, .ref b), (1, .ref (e.2.2.1 0)), (2, .ref (e.2.2.1 49)), (3, .int x)] [] S := by
  refine m_aload_n dL_law_755 1 rfl rfl ?_
  refine m_aload_n dL_law_756 0 rfl rfl ?_
  refine m_iload_n dL_law_757 3 rfl rfl ?_
  refine m_iconst (v := 1) dL_law_758 (by decide) ?_
  refine m_iadd dL_law_759 ?_
  refine m_sld hX h1 dL_law_760 ?_
  refine m_aload_n dL_law_761 0 rfl rfl ?_
  refine m_iload_n dL_law_762 3 rfl rfl ?_
  refine m_iconst (v := 2) dL_law_763 (by decide) ?_
  refine m_iadd dL_law_764 ?_
  refine m_sld hX h2 dL_law_765 ?_
  refine m_callV 0 [.int (xs (x + 1).toNatClampNeg), .int (xs (x + 2).toNatClampNeg)] (c_X6_rate (ok_rate hI _ _)) (o_0 e _) rfl rfl q29_13 q29_14 q29_15 q1_2 q29_16 t_X6_rate rfl (by omega) (by decide) (Nat.le_of_ble_eq_true rfl) rfl dL_law_766 (kI (P := MW Z e cL_law 4 RL 2000 769 [(0, .ref b), (1, .ref (e.2.2.1 0)), (2, .ref (e.2.2.1 49)), (3, .int x)]) (fun r0 S1 h => ?_))
  refine m_aload_n dL_law_769 2 rfl rfl ?_
  refine m_aload_n dL_law_770 0 rfl rfl ?_
  refine m_iload_n dL_law_771 3 rfl rfl ?_
  refine m_iconst (v := 1) dL_law_772 (by decide) ?_
  refine m_iadd dL_law_773 ?_
  refine m_sld hX h1 dL_law_774 ?_
  refine m_aload_n dL_law_775 0 rfl rfl ?_
  refine m_iload_n dL_law_776 3 rfl rfl ?_
  refine m_iconst (v := 2) dL_law_777 (by decide) ?_
  refine m_iadd dL_law_778 ?_
  refine m_sld hX h2 dL_law_779 ?_
  refine m_callV 49 [.int (xs (x + 1).toNatClampNeg), .int (xs (x + 2).toNatClampNeg)] (c_X7_rate h) (o_49 e _) rfl rfl q31_7 q31_8 q31_9 q1_5 q31_10 t_X7_rate rfl (by omega) (by decide) (Nat.le_of_ble_eq_true rfl) rfl dL_law_780 (kI (P := MW Z e cL_law 4 RL 2000 783 [(0, .ref b), (1, .ref (e.2.2.1 0)), (2, .ref (e.2.2.1 49)), (3, .int x)]) (fun r1 S2 h => ?_))
  exact m_icmp_eq (tgt := 871) dL_law_783 (by decide) (fun _ => k S2 h.2) (fun z => absurd h.1 z)

set_option maxRecDepth 100000 in
set_option maxHeartbeats 4000000 in
theorem k_keep {Z : Zt} {e : GE} {b L : Nat} {xs : Nat → Int32} {x : Int32} {S : St} (hX : SX Z b L xs) (h1 : vp_in (x + 1) L) (h2 : vp_in (x + 2) L) (h3 : vp_in (x + 3) L) (h4 : vp_in (x + 4) L) (hI : INV S) (k : ∀ S2, INV S2 → MW Z e cL_law 4 RL 2000 871 [(0, .ref b), (1, .ref (e.2.2.1 0)), (2, .ref (e.2.2.1 49)), (3, .int x)] [] S2) : MW Z e cL_law 4 RL 2000 788 [(0, .ref b), (1, .ref (e.2.2.1 0)), (2, .ref (e.2.2.1 49)), (3, .int x)] [] S := by
  refine m_aload_n dL_law_788 1 rfl rfl ?_
  refine m_aload_n dL_law_789 0 rfl rfl ?_
  refine m_iload_n dL_law_790 3 rfl rfl ?_
  refine m_iconst (v := 1) dL_law_791 (by decide) ?_
  refine m_iadd dL_law_792 ?_
  refine m_sld hX h1 dL_law_793 ?_
  refine m_callV 0 [.int (xs (x + 1).toNatClampNeg)] (c_X6_keep (ok_keep hI _)) (o_0 e _) rfl rfl q31_18 q31_19 q31_20 q1_2 q31_21 t_X6_keep rfl (by omega) (by decide) (Nat.le_of_ble_eq_true rfl) rfl dL_law_794 (kI (P := MW Z e cL_law 4 RL 2000 797 [(0, .ref b), (1, .ref (e.2.2.1 0)), (2, .ref (e.2.2.1 49)), (3, .int x)]) (fun r0 S1 h => ?_))
  refine m_aload_n dL_law_797 2 rfl rfl ?_
  refine m_aload_n dL_law_798 0 rfl rfl ?_
  refine m_iload_n dL_law_799 3 rfl rfl ?_
  refine m_iconst (v := 1) dL_law_800 (by decide) ?_
  refine m_iadd dL_law_801 ?_
  refine m_sld hX h1 dL_law_802 ?_
  refine m_callV 49 [.int (xs (x + 1).toNatClampNeg)] (c_X7_keep h) (o_49 e _) rfl rfl q32_3 q32_4 q32_5 q1_5 q32_6 t_X7_keep rfl (by omega) (by decide) (Nat.le_of_ble_eq_true rfl) rfl dL_law_803 (kI (P := MW Z e cL_law 4 RL 2000 806 [(0, .ref b), (1, .ref (e.2.2.1 0)), (2, .ref (e.2.2.1 49)), (3, .int x)]) (fun r1 S2 h => ?_))
  exact m_icmp_eq (tgt := 871) dL_law_806 (by decide) (fun _ => k S2 h.2) (fun z => absurd h.1 z)

set_option maxRecDepth 100000 in
set_option maxHeartbeats 4000000 in
theorem k_back {Z : Zt} {e : GE} {b L : Nat} {xs : Nat → Int32} {x : Int32} {S : St} (hX : SX Z b L xs) (h1 : vp_in (x + 1) L) (h2 : vp_in (x + 2) L) (h3 : vp_in (x + 3) L) (h4 : vp_in (x + 4) L) (hI : INV S) (k : ∀ S2, INV S2 → MW Z e cL_law 4 RL 2000 871 [(0, .ref b), (1, .ref (e.2.2.1 0)), (2, .ref (e.2.2.1 49)), (3, .int x)] [] S2) : MW Z e cL_law 4 RL 2000 811 [(0, .ref b), (1, .ref (e.2.2.1 0)), (2, .ref (e.2.2.1 49)), (3, .int x)] [] S := by
  refine m_aload_n dL_law_811 1 rfl rfl ?_
  refine m_aload_n dL_law_812 0 rfl rfl ?_
  refine m_iload_n dL_law_813 3 rfl rfl ?_
  refine m_iconst (v := 1) dL_law_814 (by decide) ?_
  refine m_iadd dL_law_815 ?_
  refine m_sld hX h1 dL_law_816 ?_
  refine m_callV 0 [.int (xs (x + 1).toNatClampNeg)] (c_X6_back (ok_back hI _)) (o_0 e _) rfl rfl q32_7 q32_8 q32_9 q1_2 q32_10 t_X6_back rfl (by omega) (by decide) (Nat.le_of_ble_eq_true rfl) rfl dL_law_817 (kI (P := MW Z e cL_law 4 RL 2000 820 [(0, .ref b), (1, .ref (e.2.2.1 0)), (2, .ref (e.2.2.1 49)), (3, .int x)]) (fun r0 S1 h => ?_))
  refine m_aload_n dL_law_820 2 rfl rfl ?_
  refine m_aload_n dL_law_821 0 rfl rfl ?_
  refine m_iload_n dL_law_822 3 rfl rfl ?_
  refine m_iconst (v := 1) dL_law_823 (by decide) ?_
  refine m_iadd dL_law_824 ?_
  refine m_sld hX h1 dL_law_825 ?_
  refine m_callV 49 [.int (xs (x + 1).toNatClampNeg)] (c_X7_back h) (o_49 e _) rfl rfl q32_11 q32_12 q32_13 q1_5 q32_14 t_X7_back rfl (by omega) (by decide) (Nat.le_of_ble_eq_true rfl) rfl dL_law_826 (kI (P := MW Z e cL_law 4 RL 2000 829 [(0, .ref b), (1, .ref (e.2.2.1 0)), (2, .ref (e.2.2.1 49)), (3, .int x)]) (fun r1 S2 h => ?_))
  exact m_icmp_eq (tgt := 871) dL_law_829 (by decide) (fun _ => k S2 h.2) (fun z => absurd h.1 z)

set_option maxRecDepth 100000 in
set_option maxHeartbeats 4000000 in
theorem k_count {Z : Zt} {e : GE} {b L : Nat} {xs : Nat → Int32} {x : Int32} {S : St} (hX : SX Z b L xs) (h1 : vp_in (x + 1) L) (h2 : vp_in (x + 2) L) (h3 : vp_in (x + 3) L) (h4 : vp_in (x + 4) L) (hI : INV S) (k : ∀ S2, INV S2 → MW Z e cL_law 4 RL 2000 871 [(0, .ref b), (1, .ref (e.2.2.1 0)), (2, .ref (e.2.2.1 49)), (3, .int x)] [] S2) : MW Z e cL_law 4 RL 2000 834 [(0, .ref b), (1, .ref (e.2.2.1 0)), (2, .ref (e.2.2.1 49)), (3, .int x)] [] S := by
  refine m_aload_n dL_law_834 1 rfl rfl ?_
  refine m_aload_n dL_law_835 0 rfl rfl ?_
  refine m_iload_n dL_law_836 3 rfl rfl ?_
  refine m_iconst (v := 1) dL_law_837 (by decide) ?_
  refine m_iadd dL_law_838 ?_
  refine m_sld hX h1 dL_law_839 ?_
  refine m_callV 0 [.int (xs (x + 1).toNatClampNeg)] (c_X6_count (ok_count hI _)) (o_0 e _) rfl rfl q32_15 q32_16 q32_17 q1_2 q32_18 t_X6_count rfl (by omega) (by decide) (Nat.le_of_ble_eq_true rfl) rfl dL_law_840 (kR (P := MW Z e cL_law 4 RL 2000 843 [(0, .ref b), (1, .ref (e.2.2.1 0)), (2, .ref (e.2.2.1 49)), (3, .int x)]) (fun r0 h => ?_))
  refine m_aload_n dL_law_843 2 rfl rfl ?_
  refine m_aload_n dL_law_844 0 rfl rfl ?_
  refine m_iload_n dL_law_845 3 rfl rfl ?_
  refine m_iconst (v := 1) dL_law_846 (by decide) ?_
  refine m_iadd dL_law_847 ?_
  refine m_sld hX h1 dL_law_848 ?_
  refine m_callV 49 [.int (xs (x + 1).toNatClampNeg)] (c_X7_count h) (o_49 e _) rfl rfl q33_1 q33_2 q33_3 q1_5 q33_4 t_X7_count rfl (by omega) (by decide) (Nat.le_of_ble_eq_true rfl) rfl dL_law_849 (kR (P := MW Z e cL_law 4 RL 2000 852 [(0, .ref b), (1, .ref (e.2.2.1 0)), (2, .ref (e.2.2.1 49)), (3, .int x)]) (fun r1 h => ?_))
  exact m_icmp_eq (tgt := 871) dL_law_852 (by decide) (fun _ => k S hI) (fun z => absurd h z)

set_option maxRecDepth 100000 in
set_option maxHeartbeats 4000000 in
theorem k_trace {Z : Zt} {e : GE} {b L : Nat} {xs : Nat → Int32} {x : Int32} {S : St} (hX : SX Z b L xs) (h1 : vp_in (x + 1) L) (h2 : vp_in (x + 2) L) (h3 : vp_in (x + 3) L) (h4 : vp_in (x + 4) L) (hI : INV S) (k : ∀ S2, INV S2 → MW Z e cL_law 4 RL 2000 871 [(0, .ref b), (1, .ref (e.2.2.1 0)), (2, .ref (e.2.2.1 49)), (3, .int x)] [] S2) : MW Z e cL_law 4 RL 2000 857 [(0, .ref b), (1, .ref (e.2.2.1 0)), (2, .ref (e.2.2.1 49)), (3, .int x)] [] S := by
  refine m_aload_n dL_law_857 1 rfl rfl ?_
  refine m_callV 0 [] (c_X6_trace (ok_trace hI)) (o_0 e _) rfl rfl q33_5 q33_6 q33_7 q1_2 q33_8 t_X6_trace rfl (by omega) (by decide) (Nat.le_of_ble_eq_true rfl) rfl dL_law_858 (kL (P := MW Z e cL_law 4 RL 2000 861 [(0, .ref b), (1, .ref (e.2.2.1 0)), (2, .ref (e.2.2.1 49)), (3, .int x)]) (fun r0 h => ?_))
  refine m_aload_n dL_law_861 2 rfl rfl ?_
  refine m_callV 49 [] (c_X7_trace h) (o_49 e _) rfl rfl q33_9 q33_10 q33_11 q1_5 q33_12 t_X7_trace rfl (by omega) (by decide) (Nat.le_of_ble_eq_true rfl) rfl dL_law_862 (kL (P := MW Z e cL_law 4 RL 2000 865 [(0, .ref b), (1, .ref (e.2.2.1 0)), (2, .ref (e.2.2.1 49)), (3, .int x)]) (fun r1 h => ?_))
  refine m_lcmp dL_law_865 ?_
  refine m_if_eq (tgt := 871) dL_law_866 (by decide) (fun _ => k S hI) (fun z => absurd (lcmp_eq h) z)
