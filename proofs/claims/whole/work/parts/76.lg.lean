set_option maxRecDepth 100000 in
set_option maxHeartbeats 8000000 in
theorem law_mid {p : Program} {e : Env} {s : State} {m : MethodId} {below : List Frame} {meth : Method} {c : Code} (l : Launch) {b L : Nat} {xs : Nat → Int32} (hL : L ≤ 320) (C0 : lw_At p s m meth c b L xs) {e1 : GE} (hKK : KK e1 s) (hE : EN e1 (fun q : Nat => s.heap.size ≤ q) s s.heap) {H : Heap} {locs : List Loc} {ls : Array Slot} (hP : va_P e1.1 vwCl (W50 e1) H) (hD : va_D (fun q : Nat => s.heap.size ≤ q) (W50 e1)) (hS : va_S (fun q : Nat => s.heap.size ≤ q) s.heap H locs) (hl : lv_has ls 4 [(1, .ref (e1.2.2.1 0)), (0, .ref b)]) : W p l e room_1 s m #[Value.ref b] below meth c H locs 50 1056 (lw_Z below #[Value.ref b] s) (F0 m 12 ls [.ref (e1.2.2.1 49), .ref (e1.2.2.1 49)]) := by
  obtain ⟨hx, hb, hr, hml, hown, htsL, hX, hbl, hlocks, hgv⟩ := id C0
  have hts : ∀ w ∈ wsL_law, w.before #[Value.ref b] s = true := fun w hw => htsL w (tb_all w hw)
  have hA : ∀ q : Nat, s.heap.size ≤ q → (fun q : Nat => s.heap.size ≤ q) q := fun _ h => h
  have hbA : ¬ (fun q : Nat => s.heap.size ≤ q) b := Nat.not_le.mpr hbl
  have hFc := va_free (wc := W50 e1) hD hS hA (List.range 50) rfl
  have hEH : EN e1 (va_A (W50 e1) H.size) s H := (hE.kept hS.2.1).narrow hFc
  refine va_callv (va_runI (As := []) (rest := [.ref (e1.2.2.1 49)]) ⟨hx, hb, hml, hown, hts⟩ (ci_X7 e1 l H.size) (cwI 0 hts (gdC q5_12) rfl rfl rfl (hts _ q1_5) (hts _ q5_10) (hts _ q5_11) rfl (by decide +kernel) ⟨Nat.le_of_ble_eq_true rfl, Nat.le_of_ble_eq_true rfl⟩) ⟨pre7_blind, fun U hU hW => ⟨rfl, by rw [hU], by rw [hU]; exact hP, hKK.warm hW, hD.weaken (fun _ _ _ _ => trivial), by rw [hU]; exact hEH.moved hW.alike⟩⟩ rfl rfl hl.1 rfl (lv_room (Nat.le_of_ble_eq_true rfl)) dL_law_12 ⟨Nat.le_of_ble_eq_true rfl, Nat.le_of_ble_eq_true rfl⟩) hS (fun q _ h => hFc q h) hFc (fun u t H1 locs ht hvm hw hB hz1 hk1 hS => ?_)
  obtain ⟨ad, S0⟩ := u
  obtain ⟨hI, a0, a49⟩ := hw
  obtain ⟨hP1, hD1⟩ := hB
  rw [ht] at hP1
  obtain ⟨hP, hD⟩ := va_join (wr := []) hP hD (List.range 50) [] rfl rfl (by decide) (by decide) hk1 hFc hP1 hD1
  generalize H1 = H at hP hS ⊢
  obtain ⟨e2, he2⟩ : ∃ e2 : GE, e2 = (e1.1, e1.2.1, ad, e1.2.2.2.1, e1.2.2.2.2) := ⟨_, rfl⟩
  have hP : va_P e2.1 vwCl (WW e2 S0) H := by subst he2; exact hP
  have hD : va_D (fun q : Nat => s.heap.size ≤ q) (WW e2 S0) := by subst he2; exact hD
  have b0 : e1.2.2.1 0 = e2.2.2.1 0 := by subst he2; exact a0.symm
  have b49 : e1.2.2.1 49 = e2.2.2.1 49 := by subst he2; exact a49.symm
  have hK2 : KK e2 s := by subst he2; exact hKK
  have hE2 : EN e2 (fun q : Nat => s.heap.size ≤ q) s s.heap := hE.sameE (by subst he2; rfl) (by subst he2; rfl)
  rw [b0] at hl
  rw [b49]
  refine W.widen (k := 62) (n := 4101) (Nat.le_of_ble_eq_true rfl) (Nat.le_of_ble_eq_true rfl) ?_
  refine lv_astore_n (lv' := [(2, .ref (e2.2.2.1 49)), (1, .ref (e2.2.2.1 0)), (0, .ref b)]) hx hb dL_law_15 rfl hl (by decide) rfl (fun ls hl => ?_)
  refine lv_iconst (v := 0) hx hb dL_law_16 (by decide) ?_
  refine lv_istore_n (lv' := [(3, .int 0), (2, .ref (e2.2.2.1 49)), (1, .ref (e2.2.2.1 0)), (0, .ref b)]) hx hb dL_law_17 rfl hl (by decide) rfl (fun ls hl => ?_)
  have hX2 : SX (p, l, e, room_1, s, m, #[Value.ref b], below, meth, c, (fun q : Nat => s.heap.size ≤ q), (62, 4101), lw_Z below #[Value.ref b] s) b L xs := ⟨hX, hbl, hbA⟩
  have kend : ∀ (x : Int32) (S : St), MW (p, l, e, room_1, s, m, #[Value.ref b], below, meth, c, (fun q : Nat => s.heap.size ≤ q), (62, 4101), lw_Z below #[Value.ref b] s) e2 cL_law 4 RL 2000 877 [(0, .ref b), (1, .ref (e2.2.2.1 0)), (2, .ref (e2.2.2.1 49)), (3, .int x)] [] S := by
    intro x S g H locs ls hl hP hD hS
    refine lv_iconst (v := 1) hx hb dL_law_877 (by decide) ?_
    refine va_forget (fun q hq => hS.2.2 q hq) ?_
    refine W.widen (k := 600000) (n := 7302250) (Nat.le_of_ble_eq_true rfl) (Nat.le_of_ble_eq_true rfl) ?_
    exact lw_ret hx hb hr hlocks dL_law_878
  exact law_loop hX2 hL kend L 0 (Nat.zero_le L) (by omega) S0 hI ⟨hx, hb, hml, hown, hts, hK2, hE2, ⟨Nat.le_of_ble_eq_true rfl, Nat.le_of_ble_eq_true rfl, Nat.le_of_ble_eq_true rfl, Nat.le_of_ble_eq_true rfl⟩, hA, fun j hj => WW_A hD hj⟩ H _ ls (lv_sub hl [3, 2, 1, 0] rfl) hP hD hS
