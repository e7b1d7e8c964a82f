theorem st_arr {args : Array Value} {s : State} {ty : FieldType} (h : (Cond.arrayClass ty).before args s = true) : ∃ cA : ClassId, ArrOfT s cA ty ∧ s.vm.findClass ("[" ++ ty.toString) = some cA := by
  obtain ⟨cA, kA, comp, h1, h2, h3⟩ := Cond.arrayClass_spec h
  exact ⟨cA, fun N z => ⟨(fun k h => by cases h), kA, h2, comp, h3⟩, h1⟩
theorem st_arrq {s : State} {C : String} (h : va_AO C s) : ∃ cA : ClassId, ArrOfT s cA (.object C) ∧ va_RA s cA (.object C) := by
  obtain ⟨comp, c, k, h1, h2, h3, h4, h5⟩ := Cond.arrayOver_spec h
  exact ⟨c, fun N z => ⟨(fun k h => by cases h), k, h3, comp, h4⟩, k, comp, h3, h4, h1, h5⟩
def st_tm : Nat → Term := fun i => Term.string "LeanedBars$Reader" (ixS.getD i 0)
set_option maxRecDepth 100000 in
set_option maxHeartbeats 4000000 in
theorem st_strings {b : Nat} {s : State} (hgv : (Jvm.Cond.and given_1 narrow_1).before #[Value.ref b] s = true) {A : Nat → Prop} (hA : ∀ a : Nat, a < s.heap.size → ¬ A a) : ∃ adK adV : Nat → Nat, vk_S 4 lenS bytS adK adV A s s.heap ∧ ∀ i : Nat, i < 4 → (st_tm i).eval #[Value.ref b] s none [] s = some (.ref (adK i)) := by
  have hs := flat_of_before _ hgv
  have hex0 := hs (Cond.exactly (Term.string "LeanedBars$Reader" 48) "java/lang/String") (by decide +kernel)
  have hco0 := hs (Cond.eq (Term.field (Term.string "LeanedBars$Reader" 48) "java/lang/String" "coder" "B") (Term.int 0)) (by decide +kernel)
  have har0 := hs (Cond.arrayOf (Term.field (Term.string "LeanedBars$Reader" 48) "java/lang/String" "value" "[B") .byte) (by decide +kernel)
  have hle0 := hs (Cond.eq (Term.length (Term.field (Term.string "LeanedBars$Reader" 48) "java/lang/String" "value" "[B")) (Term.int 3)) (by decide +kernel)
  have hel0_0 := hs (Cond.eq (Term.elem (Term.field (Term.string "LeanedBars$Reader" 48) "java/lang/String" "value" "[B") (Term.int 0)) (Term.int 98)) (by decide +kernel)
  have hel0_1 := hs (Cond.eq (Term.elem (Term.field (Term.string "LeanedBars$Reader" 48) "java/lang/String" "value" "[B") (Term.int 1)) (Term.int 97)) (by decide +kernel)
  have hel0_2 := hs (Cond.eq (Term.elem (Term.field (Term.string "LeanedBars$Reader" 48) "java/lang/String" "value" "[B") (Term.int 2)) (Term.int 114)) (by decide +kernel)
  have hex1 := hs (Cond.exactly (Term.string "LeanedBars$Reader" 57) "java/lang/String") (by decide +kernel)
  have hco1 := hs (Cond.eq (Term.field (Term.string "LeanedBars$Reader" 57) "java/lang/String" "coder" "B") (Term.int 0)) (by decide +kernel)
  have har1 := hs (Cond.arrayOf (Term.field (Term.string "LeanedBars$Reader" 57) "java/lang/String" "value" "[B") .byte) (by decide +kernel)
  have hle1 := hs (Cond.eq (Term.length (Term.field (Term.string "LeanedBars$Reader" 57) "java/lang/String" "value" "[B")) (Term.int 6)) (by decide +kernel)
  have hel1_0 := hs (Cond.eq (Term.elem (Term.field (Term.string "LeanedBars$Reader" 57) "java/lang/String" "value" "[B") (Term.int 0)) (Term.int 112)) (by decide +kernel)
  have hel1_1 := hs (Cond.eq (Term.elem (Term.field (Term.string "LeanedBars$Reader" 57) "java/lang/String" "value" "[B") (Term.int 1)) (Term.int 101)) (by decide +kernel)
  have hel1_2 := hs (Cond.eq (Term.elem (Term.field (Term.string "LeanedBars$Reader" 57) "java/lang/String" "value" "[B") (Term.int 2)) (Term.int 114)) (by decide +kernel)
  have hel1_3 := hs (Cond.eq (Term.elem (Term.field (Term.string "LeanedBars$Reader" 57) "java/lang/String" "value" "[B") (Term.int 3)) (Term.int 115)) (by decide +kernel)
  have hel1_4 := hs (Cond.eq (Term.elem (Term.field (Term.string "LeanedBars$Reader" 57) "java/lang/String" "value" "[B") (Term.int 4)) (Term.int 111)) (by decide +kernel)
  have hel1_5 := hs (Cond.eq (Term.elem (Term.field (Term.string "LeanedBars$Reader" 57) "java/lang/String" "value" "[B") (Term.int 5)) (Term.int 110)) (by decide +kernel)
  have hex2 := hs (Cond.exactly (Term.string "LeanedBars$Reader" 62) "java/lang/String") (by decide +kernel)
  have hco2 := hs (Cond.eq (Term.field (Term.string "LeanedBars$Reader" 62) "java/lang/String" "coder" "B") (Term.int 0)) (by decide +kernel)
  have har2 := hs (Cond.arrayOf (Term.field (Term.string "LeanedBars$Reader" 62) "java/lang/String" "value" "[B") .byte) (by decide +kernel)
  have hle2 := hs (Cond.eq (Term.length (Term.field (Term.string "LeanedBars$Reader" 62) "java/lang/String" "value" "[B")) (Term.int 4)) (by decide +kernel)
  have hel2_0 := hs (Cond.eq (Term.elem (Term.field (Term.string "LeanedBars$Reader" 62) "java/lang/String" "value" "[B") (Term.int 0)) (Term.int 114)) (by decide +kernel)
  have hel2_1 := hs (Cond.eq (Term.elem (Term.field (Term.string "LeanedBars$Reader" 62) "java/lang/String" "value" "[B") (Term.int 1)) (Term.int 97)) (by decide +kernel)
  have hel2_2 := hs (Cond.eq (Term.elem (Term.field (Term.string "LeanedBars$Reader" 62) "java/lang/String" "value" "[B") (Term.int 2)) (Term.int 105)) (by decide +kernel)
  have hel2_3 := hs (Cond.eq (Term.elem (Term.field (Term.string "LeanedBars$Reader" 62) "java/lang/String" "value" "[B") (Term.int 3)) (Term.int 110)) (by decide +kernel)
  have hex3 := hs (Cond.exactly (Term.string "LeanedBars$Reader" 67) "java/lang/String") (by decide +kernel)
  have hco3 := hs (Cond.eq (Term.field (Term.string "LeanedBars$Reader" 67) "java/lang/String" "coder" "B") (Term.int 0)) (by decide +kernel)
  have har3 := hs (Cond.arrayOf (Term.field (Term.string "LeanedBars$Reader" 67) "java/lang/String" "value" "[B") .byte) (by decide +kernel)
  have hle3 := hs (Cond.eq (Term.length (Term.field (Term.string "LeanedBars$Reader" 67) "java/lang/String" "value" "[B")) (Term.int 5)) (by decide +kernel)
  have hel3_0 := hs (Cond.eq (Term.elem (Term.field (Term.string "LeanedBars$Reader" 67) "java/lang/String" "value" "[B") (Term.int 0)) (Term.int 112)) (by decide +kernel)
  have hel3_1 := hs (Cond.eq (Term.elem (Term.field (Term.string "LeanedBars$Reader" 67) "java/lang/String" "value" "[B") (Term.int 1)) (Term.int 97)) (by decide +kernel)
  have hel3_2 := hs (Cond.eq (Term.elem (Term.field (Term.string "LeanedBars$Reader" 67) "java/lang/String" "value" "[B") (Term.int 2)) (Term.int 105)) (by decide +kernel)
  have hel3_3 := hs (Cond.eq (Term.elem (Term.field (Term.string "LeanedBars$Reader" 67) "java/lang/String" "value" "[B") (Term.int 3)) (Term.int 110)) (by decide +kernel)
  have hel3_4 := hs (Cond.eq (Term.elem (Term.field (Term.string "LeanedBars$Reader" 67) "java/lang/String" "value" "[B") (Term.int 4)) (Term.int 116)) (by decide +kernel)
  have hne0_1 := hs (Cond.not (Cond.eq (Term.string "LeanedBars$Reader" 48) (Term.string "LeanedBars$Reader" 57))) (by decide +kernel)
  have hne0_2 := hs (Cond.not (Cond.eq (Term.string "LeanedBars$Reader" 48) (Term.string "LeanedBars$Reader" 62))) (by decide +kernel)
  have hne0_3 := hs (Cond.not (Cond.eq (Term.string "LeanedBars$Reader" 48) (Term.string "LeanedBars$Reader" 67))) (by decide +kernel)
  have hne1_2 := hs (Cond.not (Cond.eq (Term.string "LeanedBars$Reader" 57) (Term.string "LeanedBars$Reader" 62))) (by decide +kernel)
  have hne1_3 := hs (Cond.not (Cond.eq (Term.string "LeanedBars$Reader" 57) (Term.string "LeanedBars$Reader" 67))) (by decide +kernel)
  have hne2_3 := hs (Cond.not (Cond.eq (Term.string "LeanedBars$Reader" 62) (Term.string "LeanedBars$Reader" 67))) (by decide +kernel)
  refine vk_Sof (tm := st_tm) (by decide) (fun i hi => match i, hi with
    | 0, _ => hex0
    | 1, _ => hex1
    | 2, _ => hex2
    | 3, _ => hex3
    | n + 4, h => absurd h (by omega))
    (fun i hi => match i, hi with
    | 0, _ => hco0
    | 1, _ => hco1
    | 2, _ => hco2
    | 3, _ => hco3
    | n + 4, h => absurd h (by omega))
    (fun i hi => match i, hi with
    | 0, _ => har0
    | 1, _ => har1
    | 2, _ => har2
    | 3, _ => har3
    | n + 4, h => absurd h (by omega))
    (fun i hi => match i, hi with
    | 0, _ => hle0
    | 1, _ => hle1
    | 2, _ => hle2
    | 3, _ => hle3
    | n + 4, h => absurd h (by omega))
    ?_ ?_ hA
  · intro i hi j hj
    match i, hi, j, hj with
    | 0, _, 0, _ => exact hel0_0
    | 0, _, 1, _ => exact hel0_1
    | 0, _, 2, _ => exact hel0_2
    | 0, _, n + 3, h => exact absurd (show n + 3 < 3 from h) (by omega)
    | 1, _, 0, _ => exact hel1_0
    | 1, _, 1, _ => exact hel1_1
    | 1, _, 2, _ => exact hel1_2
    | 1, _, 3, _ => exact hel1_3
    | 1, _, 4, _ => exact hel1_4
    | 1, _, 5, _ => exact hel1_5
    | 1, _, n + 6, h => exact absurd (show n + 6 < 6 from h) (by omega)
    | 2, _, 0, _ => exact hel2_0
    | 2, _, 1, _ => exact hel2_1
    | 2, _, 2, _ => exact hel2_2
    | 2, _, 3, _ => exact hel2_3
    | 2, _, n + 4, h => exact absurd (show n + 4 < 4 from h) (by omega)
    | 3, _, 0, _ => exact hel3_0
    | 3, _, 1, _ => exact hel3_1
    | 3, _, 2, _ => exact hel3_2
    | 3, _, 3, _ => exact hel3_3
    | 3, _, 4, _ => exact hel3_4
    | 3, _, n + 5, h => exact absurd (show n + 5 < 5 from h) (by omega)
    | n + 4, h, _, _ => exact absurd h (by omega)
  · intro i j hi hj hij
    match i, hi, j, hj with
    | 0, _, 0, _ => exact absurd rfl hij
    | 0, _, 1, _ => exact Or.inl hne0_1
    | 0, _, 2, _ => exact Or.inl hne0_2
    | 0, _, 3, _ => exact Or.inl hne0_3
    | 0, _, n + 4, h => exact absurd h (by omega)
    | 1, _, 0, _ => exact Or.inr hne0_1
    | 1, _, 1, _ => exact absurd rfl hij
    | 1, _, 2, _ => exact Or.inl hne1_2
    | 1, _, 3, _ => exact Or.inl hne1_3
    | 1, _, n + 4, h => exact absurd h (by omega)
    | 2, _, 0, _ => exact Or.inr hne0_2
    | 2, _, 1, _ => exact Or.inr hne1_2
    | 2, _, 2, _ => exact absurd rfl hij
    | 2, _, 3, _ => exact Or.inl hne2_3
    | 2, _, n + 4, h => exact absurd h (by omega)
    | 3, _, 0, _ => exact Or.inr hne0_3
    | 3, _, 1, _ => exact Or.inr hne1_3
    | 3, _, 2, _ => exact Or.inr hne2_3
    | 3, _, 3, _ => exact absurd rfl hij
    | 3, _, n + 4, h => exact absurd h (by omega)
    | n + 4, h, _, _ => exact absurd h (by omega)
set_option maxRecDepth 100000 in
set_option maxHeartbeats 8000000 in
/-- what the tables and the premises give at the start: the classes, the String constants, the statics -/
theorem start_KK {b : Nat} {s : State} (hts : ∀ w ∈ lw_tbl, w.before #[Value.ref b] s = true) (hgv : (Jvm.Cond.and given_1 narrow_1).before #[Value.ref b] s = true) : ∃ e : GE, KK e s ∧ EN e (fun q : Nat => s.heap.size ≤ q) s s.heap := by
  have htw : ∀ w ∈ wsL_law, w.before #[Value.ref b] s = true := fun w hw => hts w (tb_all w hw)
  obtain ⟨c0, i0, hK0⟩ := u_known (C := RX0) (T := TX0) (N := 3) (n := 3) htw inlX0 (htw _ q2_11)
  obtain ⟨c1, i1, hK1⟩ := u_known (C := RX1) (T := TX1) (N := 6) (n := 6) htw inlX1 (htw _ q2_0)
  obtain ⟨c2, i2, hK2⟩ := u_known (C := RX2) (T := TX2) (N := 9) (n := 9) htw inlX2 (htw _ q1_20)
  obtain ⟨c3, i3, hK3⟩ := u_known (C := RX3) (T := TX3) (N := 6) (n := 6) htw inlX3 (htw _ q1_14)
  obtain ⟨c4, i4, hK4⟩ := u_known (C := RX4) (T := TX4) (N := 2) (n := 2) htw inlX4 (htw _ q2_19)
  obtain ⟨c5, i5, hK5⟩ := u_known (C := RX5) (T := TX5) (N := 9) (n := 9) htw inlX5 (htw _ q2_7)
  obtain ⟨c6, i6, hK6⟩ := u_known (C := RX6) (T := TX6) (N := 9) (n := 9) htw inlX6 (htw _ q1_1)
  obtain ⟨c7, i7, hK7⟩ := u_known (C := RX7) (T := TX7) (N := 19) (n := 19) htw inlX7 (htw _ q1_4)
  obtain ⟨aI, hI1, hI2⟩ := st_arr (htw _ q3_17)
  obtain ⟨aB, hB1, hB2⟩ := st_arr (htw _ q3_7)
  obtain ⟨aZ, hZ1, hZ2⟩ := st_arr (htw _ q2_4)
  have hAO : va_AO RX1 s := va_AO.of (hts (.arrayOver (.object "LeanedBars$Now")) (List.mem_of_getElem? (i := 197) (by decide +kernel)))
  obtain ⟨aN, hN1, hN2⟩ := st_arrq hAO
  have hA : ∀ a : Nat, a < s.heap.size → ¬ (fun q : Nat => s.heap.size ≤ q) a := fun a h => Nat.not_le.mpr h
  obtain ⟨adK, adV, hSt, hTm⟩ := st_strings hgv hA
  have hs := flat_of_before _ hgv
  refine ⟨((fun k => ([c0, c1, c2, c3, c4, c5, c6, c7] : List ClassId).getD k 0, fun k => ([i0, i1, i2, i3, i4, i5, i6, i7] : List (Nat → Nat)).getD k (fun _ => 0)), fun k => ([aI, aB, aZ, aN] : List ClassId).getD k 0, fun _ => 0, adK, adV), ⟨⟨?_, ?_⟩, ?_, ?_, hAO⟩, hSt, ?_, ?_⟩
  · intro k q hq
    match k, hq with
    | 0, hq => cases hq; exact hK0
    | 1, hq => cases hq; exact hK1
    | 2, hq => cases hq; exact hK2
    | 3, hq => cases hq; exact hK3
    | 4, hq => cases hq; exact hK4
    | 5, hq => cases hq; exact hK5
    | 6, hq => cases hq; exact hK6
    | 7, hq => cases hq; exact hK7
    | k + 8, hq => simp [vwCl] at hq
  · intro k q hq
    match k, hq with
    | 0, hq => cases hq; exact ⟨hI1, hI2⟩
    | 1, hq => cases hq; exact ⟨hB1, hB2⟩
    | 2, hq => cases hq; exact ⟨hZ1, hZ2⟩
    | 3, hq => cases hq; exact ⟨hN1, hN2⟩
    | k + 4, hq => simp [tysG] at hq
  · exact ⟨va_Nw.of rfl (hts (.methodLinkNest RX4 19 yX6_within RX6) (List.mem_of_getElem? (i := 313) (by decide +kernel))), va_Nw.of rfl (hts (.methodLinkNest RX3 103 yX6_within RX6) (List.mem_of_getElem? (i := 388) (by decide +kernel))), va_Nw.of rfl (hts (.methodLinkNest RX2 52 yX6_within RX6) (List.mem_of_getElem? (i := 439) (by decide +kernel))), va_Nw.of rfl (hts (.methodLinkNest RX5 105 yX6_within RX6) (List.mem_of_getElem? (i := 604) (by decide +kernel))), va_Nw.of rfl (hts (.methodLinkNest RX6 11 yX3_init RX6) (List.mem_of_getElem? (i := 70) (by decide +kernel))), va_Nw.of rfl (hts (.methodLinkNest RX3 11 yX4_init RX6) (List.mem_of_getElem? (i := 76) (by decide +kernel))), va_Nw.of rfl (hts (.methodLinkNest RX6 45 yX5_init RX6) (List.mem_of_getElem? (i := 200) (by decide +kernel))), va_Nw.of rfl (hts (.methodLinkNest RX6 52 yX0_init RX6) (List.mem_of_getElem? (i := 235) (by decide +kernel)))⟩
  · intro i hi
    match i, hi with
    | 0, h => exact vk_R.of (hts (.stringRef "LeanedBars$Reader" 48 "bar") (List.mem_of_getElem? (i := 326) (by decide +kernel))) (hTm 0 h)
    | 1, h => exact vk_R.of (hts (.stringRef "LeanedBars$Reader" 57 "person") (List.mem_of_getElem? (i := 397) (by decide +kernel))) (hTm 1 h)
    | 2, h => exact vk_R.of (hts (.stringRef "LeanedBars$Reader" 62 "rain") (List.mem_of_getElem? (i := 406) (by decide +kernel))) (hTm 2 h)
    | 3, h => exact vk_R.of (hts (.stringRef "LeanedBars$Reader" 67 "paint") (List.mem_of_getElem? (i := 411) (by decide +kernel))) (hTm 3 h)
    | n + 4, h => exact absurd h (by omega)
  · exact va_Zof (hts (.laysStatic "java/lang/String" "COMPACT_STRINGS" "Z") (List.mem_of_getElem? (i := 340) (by decide +kernel))) (hts (.initialized "java/lang/String") (List.mem_of_getElem? (i := 54) (by decide +kernel))) (va_eqt (hs (Cond.eq (Term.static "java/lang/String" "COMPACT_STRINGS" "Z") (Term.int 1)) (by decide +kernel))) hA
  · exact va_Zqof (hts (.laysStatic "jdk/internal/util/Preconditions" "SIOOBE_FORMATTER" "Ljava/util/function/BiFunction;") (List.mem_of_getElem? (i := 356) (by decide +kernel))) (hts (.initialized "jdk/internal/util/Preconditions") (List.mem_of_getElem? (i := 56) (by decide +kernel))) (hs (Cond.isRef (Term.static "jdk/internal/util/Preconditions" "SIOOBE_FORMATTER" "Ljava/util/function/BiFunction;")) (by decide +kernel)) hA
