theorem CT.of {e : GE} {y : MethodName} {cc : ByteArray} {nL : Nat} {ret : Option FieldType} {h : Nat} {args : List Value} {S : St} {post : Option Value → St → Prop} (hy : plainName y.cls = true) (hlen : (lg_sl args).length ≤ nL)
    (body : ∀ Z : Zt, RT Z e ret post → MW Z e cc nL y.cls h 0 (lv_args 0 args) [] S) : CT e y cc nL ret h args S post := by
  intro l sz
  refine Met.ofW (cc := cc) (maxL := nL) (ret := ret) hy rfl ?_
  intro p ee s m a below meth c s₁ B hml hv
  obtain ⟨rfl, hsz, hP, hK, hD0, hE⟩ := hv
  have hts0 := atoms_spec (ws := .code y cc nL ret :: wsL_law) B.pre
  have hown : s.vm.findClass y.cls = some m.cls := findClass_of_methodNamed B.named
  subst hsz
  have hl := lv_entry args (n := nL) hlen
  rw [lg_entry_eq]
  have hA : ∀ j, j < 62 → AA e s.heap.size (e.2.2.1 j) := fun j hj => Or.inl ⟨j, hj, rfl⟩
  have hD : va_D (AA e s.heap.size) (WW e S) := ⟨hD0.1, fun k q hq => by
    have h1 : (WW e S)[k]?.map (fun q => q.1) = some q.1 := by rw [hq]; rfl
    have hm : (WW e S).map (fun q => q.1) = (List.range 62).map e.2.2.1 := rfl
    rw [← List.getElem?_map, hm, List.getElem?_map] at h1
    cases hr : (List.range 62)[k]? with
    | none => rw [hr] at h1; cases h1
    | some i =>
      rw [hr] at h1
      have h2 : e.2.2.1 i = q.1 := Option.some.inj h1
      have h3 : i < 62 := List.mem_range.mp (List.mem_of_getElem? hr)
      rw [← h2]
      exact hA i h3⟩
  exact body (p, l, ee, (headSpec (.code y cc nL ret :: wsL_law) (rmH h)).room, s, m, args.toArray, below, meth, c, AA e s.heap.size, (0, 0), MQ below (QV e s.heap.size post) args.toArray s 0 0 (AA e s.heap.size)) ⟨B.returns, B.notSynchronized, rfl, rfl, rfl, rfl⟩
    ⟨B.exec, B.bytes, hml, hown, fun w hw => hts0 w (List.mem_cons_of_mem _ hw), hK, hE, ⟨Nat.le_refl h, Nat.le_refl (40 * h), Nat.le_refl 0, Nat.le_refl 0⟩, fun q hq => Or.inr hq, hA⟩ s.heap [] _ hl hP hD va_S.rf
theorem PRE.blind {e : GE} {sz : Nat} {S : St} {av : List Value} : FrameBlind (va_Pc av (PRE e sz S)) := by
  intro a U g mk q
  obtain ⟨q0, q1, q2, q3, q4, q5⟩ := q
  exact ⟨q0, q1, q2, q3.same (s := U) (U := U.calling g mk a) rfl, q4, q5.moved (u := U) (U := U.calling g mk a) (Vm.Alike.refl U.vm)⟩
theorem PRE.of {e : GE} {S : St} {s U : State} {H : Heap} {locs : List Loc} {A : Nat → Prop} (hK : KK e s) (hE : EN e A s s.heap) (hA : ∀ q, s.heap.size ≤ q → A q) (hA2 : ∀ j, j < 62 → A (e.2.2.1 j)) (hP : va_P e.1 vwCl (WW e S) H) (hD : va_D A (WW e S)) (hS : va_S A s.heap H locs) (hU : U.heap = H) (hW : s.WarmedH U.vm) : PRE e H.size S U :=
  ⟨by rw [hU], by rw [hU]; exact hP, hK.warm hW, hD.weaken (fun _ _ _ _ => trivial), by
    rw [hU]
    exact ((hE.kept hS.2.1).moved hW.alike).narrow (fun q hq => by
      rcases hq with ⟨k, hk, rfl⟩ | hq
      · exact hA2 k hk
      · exact hA q (Nat.le_trans hS.1 hq))⟩
theorem AA.sub {e : GE} {s : State} {H : Heap} {locs : List Loc} {A : Nat → Prop} (hA : ∀ q, s.heap.size ≤ q → A q) (hA2 : ∀ j, j < 62 → A (e.2.2.1 j)) (hS : va_S A s.heap H locs) : ∀ q, AA e H.size q → A q := fun q hq => by
  rcases hq with ⟨k, hk, rfl⟩ | hq
  · exact hA2 k hk
  · exact hA q (Nat.le_trans hS.1 hq)
section
variable {p : Program} {l : Launch} {ee : Env} {R : Room} {s : State} {m : MethodId} {args : Array Value} {below : List Frame} {meth : Method} {c : Code} {H : Heap} {locs : List Loc} {cells slots : Nat} {Q : State → Prop}
/-- behind a call over the whole world -/
theorem call_W {e : GE} {sz : Nat} {post : Option Value → St → Prop} {A : Nat → Prop} {H0 : Heap} {pc : Nat} {ls : Array Slot} {st0 st : List Value} {a : Array Value} {S : St} (hsz : sz = H.size)
    (hr : va_Run p l ee R s m args below meth c H locs cells slots 0 0 (F0 m pc ls st0) st (QV e sz post a) (AA e sz)) (hS : va_S A H0 H locs) (hA : ∀ q, AA e H.size q → A q) (hD : va_D A (WW e S))
    (kk : ∀ (v : Option Value) (S1 : St) (H1 : Heap) (locs1 : List Loc), post v S1 → va_P e.1 vwCl (WW e S1) H1 → va_D A (WW e S1) → va_S A H0 H1 locs1 → W p l ee R s m args below meth c H1 locs1 cells slots Q (F0 m (pc + 3) ls (v.toList ++ st))) : W p l ee R s m args below meth c H locs cells slots Q (F0 m pc ls st0) := by
  subst hsz
  intro T hT X
  obtain ⟨v, st₀, t, T', L, h0, X', hL, e1, e2, ⟨⟨v2, S1, hv, hp, hb⟩, hz, hk⟩, stp⟩ := hr T hT X
  cases hv
  rw [h0] at hz hk
  rw [← e1] at hb
  obtain ⟨t2, a1, b1⟩ := kk v S1 T'.heap (locs ++ L) hp hb (WW_D S1 hD)
    ⟨Nat.le_trans hS.1 (by rw [e1]; exact hz), fun q h1 h2 => by rw [e1, hk q (Nat.lt_of_lt_of_le h1 hS.1) (fun z => h2 (hA q z))]; exact hS.2.1 q h1 h2, fun q hq => by
      rcases List.mem_append.mp hq with h | h
      · exact hS.2.2 q h
      · exact hA _ (hL q h)⟩ T' rfl X'
  exact ⟨t2, stp t2 a1, b1⟩
end
theorem gdV {own C : String} {idx n : Nat} {y : MethodName} {cc : ByteArray} {ret : Option FieldType} (h1 : .methodLink own idx y ∈ wsL_law) (h2 : .instanceMethod y ∈ wsL_law) (h3 : .selects C y y ∈ wsL_law) (h4 : .initialized C ∈ wsL_law) (h5 : .code y cc n ret ∈ wsL_law) : GoodIn wsL_law (wsV own idx C y (.code y cc n ret :: wsL_law)) := by
  intro w hw
  have hw2 : w ∈ wsL_law := by
    rcases List.mem_append.mp hw with hw | hw
    · simp only [List.mem_cons, List.not_mem_nil, or_false] at hw
      rcases hw with rfl | rfl | rfl | rfl
      · exact h1
      · exact h2
      · exact h3
      · exact h4
    · rcases List.mem_cons.mp hw with rfl | hw
      · exact h5
      · exact hw
  exact gdL w hw2
theorem gdS {own : String} {idx n : Nat} {y : MethodName} {cc : ByteArray} {ret : Option FieldType} (h1 : .methodLink own idx y ∈ wsL_law) (h2 : .static y ∈ wsL_law) (h4 : .initialized y.cls ∈ wsL_law) (h5 : .code y cc n ret ∈ wsL_law) : GoodIn wsL_law (va_wsS own idx y (.code y cc n ret :: wsL_law)) := by
  intro w hw
  have hw2 : w ∈ wsL_law := by
    rcases List.mem_append.mp hw with hw | hw
    · simp only [List.mem_cons, List.not_mem_nil, or_false] at hw
      rcases hw with rfl | rfl | rfl
      · exact h1
      · exact h2
      · exact h4
    · rcases List.mem_cons.mp hw with rfl | hw
      · exact h5
      · exact hw
  exact gdL w hw2
theorem gdC {n : Nat} {y : MethodName} {cc : ByteArray} {ret : Option FieldType} (h5 : .code y cc n ret ∈ wsL_law) : GoodIn wsL_law (.code y cc n ret :: wsL_law) := by
  intro w hw
  rcases List.mem_cons.mp hw with rfl | hw
  · exact gdL _ h5
  · exact gdL w hw

theorem m_callV {Z : Zt} {e : GE} {cc : ByteArray} {nL : Nat} {own : String} {h pc : Nat} {lv : List (Nat × Value)} {st : List Value} {S : St} {y : MethodName} {cc2 : ByteArray} {n2 h2 idx : Nat} {ret : Option FieldType} {post : Option Value → St → Prop} {na : Nat} {ci : Nat} {fs : List Value} {cv : vw_C} (q0 : Nat) (As : List Value) (hM : CT e y cc2 n2 ret h2 (.ref (e.2.2.1 q0) :: As) S post) (ho : (WW e S)[q0]? = some (e.2.2.1 q0, .inr (ci, fs))) (hc : vwCl[ci]? = some cv) (hC : y.cls = cv.1) (w1 : .methodLink own idx y ∈ wsL_law) (w2 : .instanceMethod y ∈ wsL_law) (w3 : .selects y.cls y y ∈ wsL_law) (w4 : .initialized y.cls ∈ wsL_law) (w5 : .code y cc2 n2 ret ∈ wsL_law) (hd : y.cls ≠ "java/lang/invoke/MethodHandle" ∧ y.cls ≠ "java/lang/invoke/VarHandle" ∧ (parseMethodDescriptor y.desc).map (fun d => d.parameters.length) = some na) (hn : As.length = na) (hh : h2 < h) (hn2 : n2 ≤ 21) (hst : (st.map fun v => v.category).sum ≤ 8) {st0 : List Value} (he : st0 = As.reverse ++ .ref (e.2.2.1 q0) :: st) (d : decode cc pc = .ok (.invokevirtual idx, 3)) (k : ∀ v S1, post v S1 → MW Z e cc nL own h (pc + 3) lv (v.toList ++ st) S1) : MW Z e cc nL own h pc lv st0 S := by
  obtain ⟨p, l, ee, R, s, m, args, below, meth, c, A, ⟨ck, cn⟩, Qf⟩ := Z
  intro g H locs ls hl hP hD hS
  have g8 := g.2.2.2.2.2.2.2.1
  have hw := g.2.2.2.2.1
  have hrun := va_runV (e := ee) (below := below) (meth := meth) (locs := locs) (g := F0 m pc ls st0) (As := As) (rest := st) (cells := ck) (slots := cn) (C := y.cls) ⟨g.1, g.2.1, g.2.2.1, g.2.2.2.1, hw⟩ (hM l H.size) (cwV na hw (gdV w1 w2 w3 w4 w5) rfl rfl rfl ⟨rfl, hd⟩ ⟨by show h2 + 1 ≤ _; omega, by show 8 + (n2 + 11) + 40 * h2 ≤ _; omega⟩) ⟨PRE.blind, by
      obtain ⟨cell, z1, z2, z3⟩ := va_recv g.2.2.2.2.2.1.1 hP hc ho
      exact ⟨cell, z1, z2, by rw [hC]; exact z3⟩, (fun U hU hW => ⟨rfl, PRE.of g.2.2.2.2.2.1 g.2.2.2.2.2.2.1 g.2.2.2.2.2.2.2.2.1 g.2.2.2.2.2.2.2.2.2 hP hD hS hU hW⟩)⟩ rfl hn hl.1 he (lv_room hst) d ⟨g8.2.2.1, g8.2.2.2⟩
  exact call_W rfl hrun hS (AA.sub g.2.2.2.2.2.2.2.2.1 g.2.2.2.2.2.2.2.2.2 hS) hD (fun v S1 H1 locs1 hp hP1 hD1 hS1 => k v S1 hp g H1 locs1 ls hl hP1 hD1 hS1)
theorem m_callVS {Z : Zt} {e : GE} {cc : ByteArray} {nL : Nat} {own : String} {h pc : Nat} {lv : List (Nat × Value)} {st : List Value} {S : St} {y : MethodName} {cc2 : ByteArray} {n2 h2 idx : Nat} {ret : Option FieldType} {post : Option Value → St → Prop} {na : Nat} (i : Nat) (hi : i < 4) (As : List Value) (hM : CT e y cc2 n2 ret h2 (.ref (e.2.2.2.1 i) :: As) S post) (hC : y.cls = "java/lang/String") (w1 : .methodLink own idx y ∈ wsL_law) (w2 : .instanceMethod y ∈ wsL_law) (w3 : .selects y.cls y y ∈ wsL_law) (w4 : .initialized y.cls ∈ wsL_law) (w5 : .code y cc2 n2 ret ∈ wsL_law) (hd : y.cls ≠ "java/lang/invoke/MethodHandle" ∧ y.cls ≠ "java/lang/invoke/VarHandle" ∧ (parseMethodDescriptor y.desc).map (fun d => d.parameters.length) = some na) (hn : As.length = na) (hh : h2 < h) (hn2 : n2 ≤ 21) (hst : (st.map fun v => v.category).sum ≤ 8) {st0 : List Value} (he : st0 = As.reverse ++ .ref (e.2.2.2.1 i) :: st) (d : decode cc pc = .ok (.invokevirtual idx, 3)) (k : ∀ v S1, post v S1 → MW Z e cc nL own h (pc + 3) lv (v.toList ++ st) S1) : MW Z e cc nL own h pc lv st0 S := by
  obtain ⟨p, l, ee, R, s, m, args, below, meth, c, A, ⟨ck, cn⟩, Qf⟩ := Z
  intro g H locs ls hl hP hD hS
  have g8 := g.2.2.2.2.2.2.2.1
  have hw := g.2.2.2.2.1
  have hrun := va_runV (e := ee) (below := below) (meth := meth) (locs := locs) (g := F0 m pc ls st0) (As := As) (rest := st) (cells := ck) (slots := cn) (C := y.cls) ⟨g.1, g.2.1, g.2.2.1, g.2.2.2.1, hw⟩ (hM l H.size) (cwV na hw (gdV w1 w2 w3 w4 w5) rfl rfl rfl ⟨rfl, hd⟩ ⟨by show h2 + 1 ≤ _; omega, by show 8 + (n2 + 11) + 40 * h2 ≤ _; omega⟩) ⟨PRE.blind, by
      obtain ⟨cell, z1, z2, z3⟩ := vk_recv g.2.2.2.2.2.2.1.1 hi hS
      exact ⟨cell, z1, z2, by rw [hC]; exact z3⟩, (fun U hU hW => ⟨rfl, PRE.of g.2.2.2.2.2.1 g.2.2.2.2.2.2.1 g.2.2.2.2.2.2.2.2.1 g.2.2.2.2.2.2.2.2.2 hP hD hS hU hW⟩)⟩ rfl hn hl.1 he (lv_room hst) d ⟨g8.2.2.1, g8.2.2.2⟩
  exact call_W rfl hrun hS (AA.sub g.2.2.2.2.2.2.2.2.1 g.2.2.2.2.2.2.2.2.2 hS) hD (fun v S1 H1 locs1 hp hP1 hD1 hS1 => k v S1 hp g H1 locs1 ls hl hP1 hD1 hS1)
theorem m_callS {Z : Zt} {e : GE} {cc : ByteArray} {nL : Nat} {own : String} {h pc : Nat} {lv : List (Nat × Value)} {st : List Value} {S : St} {y : MethodName} {cc2 : ByteArray} {n2 h2 idx : Nat} {ret : Option FieldType} {post : Option Value → St → Prop} {na : Nat} (As : List Value) (hM : CT e y cc2 n2 ret h2 As S post) (w1 : .methodLink own idx y ∈ wsL_law) (w2 : .static y ∈ wsL_law) (w4 : .initialized y.cls ∈ wsL_law) (w5 : .code y cc2 n2 ret ∈ wsL_law) (hd : y.cls ≠ "java/lang/invoke/MethodHandle" ∧ y.cls ≠ "java/lang/invoke/VarHandle" ∧ (parseMethodDescriptor y.desc).map (fun d => d.parameters.length) = some na) (hn : As.length = na) (hh : h2 < h) (hn2 : n2 ≤ 21) (hst : (st.map fun v => v.category).sum ≤ 8) {st0 : List Value} (he : st0 = As.reverse ++ st) (d : decode cc pc = .ok (.invokestatic idx, 3)) (k : ∀ v S1, post v S1 → MW Z e cc nL own h (pc + 3) lv (v.toList ++ st) S1) : MW Z e cc nL own h pc lv st0 S := by
  obtain ⟨p, l, ee, R, s, m, args, below, meth, c, A, ⟨ck, cn⟩, Qf⟩ := Z
  intro g H locs ls hl hP hD hS
  have g8 := g.2.2.2.2.2.2.2.1
  have hw := g.2.2.2.2.1
  have hrun := va_runS (e := ee) (below := below) (meth := meth) (locs := locs) (g := F0 m pc ls st0) (As := As) (rest := st) (cells := ck) (slots := cn) ⟨g.1, g.2.1, g.2.2.1, g.2.2.2.1, hw⟩ (hM l H.size) ⟨callB_of na hw (gdC w5) rfl rfl rfl (hw _ w4) (hw _ w1) hd ⟨by show h2 + 1 ≤ _; omega, by show 8 + (n2 + 11) + 40 * h2 ≤ _; omega⟩, hw _ w2⟩ ⟨PRE.blind, (fun U hU hW => ⟨rfl, PRE.of g.2.2.2.2.2.1 g.2.2.2.2.2.2.1 g.2.2.2.2.2.2.2.2.1 g.2.2.2.2.2.2.2.2.2 hP hD hS hU hW⟩)⟩ rfl hn hl.1 he (lv_room hst) d ⟨g8.2.2.1, g8.2.2.2⟩
  exact call_W rfl hrun hS (AA.sub g.2.2.2.2.2.2.2.2.1 g.2.2.2.2.2.2.2.2.2 hS) hD (fun v S1 H1 locs1 hp hP1 hD1 hS1 => k v S1 hp g H1 locs1 ls hl hP1 hD1 hS1)
theorem m_callSN {Z : Zt} {e : GE} {cc : ByteArray} {nL : Nat} {own : String} {h pc : Nat} {lv : List (Nat × Value)} {st : List Value} {S : St} {y : MethodName} {cc2 : ByteArray} {n2 h2 idx : Nat} {ret : Option FieldType} {post : Option Value → St → Prop} {na : Nat} (As : List Value) (hM : CT e y cc2 n2 ret h2 As S post) (w1 : ∀ U : State, NK U → va_Nw (.methodLinkNest own idx y RX6) U) (w2 : .static y ∈ wsL_law) (w4 : .initialized y.cls ∈ wsL_law) (w5 : .code y cc2 n2 ret ∈ wsL_law) (hd : y.cls ≠ "java/lang/invoke/MethodHandle" ∧ y.cls ≠ "java/lang/invoke/VarHandle" ∧ (parseMethodDescriptor y.desc).map (fun d => d.parameters.length) = some na) (hn : As.length = na) (hh : h2 < h) (hn2 : n2 ≤ 21) (hst : (st.map fun v => v.category).sum ≤ 8) {st0 : List Value} (he : st0 = As.reverse ++ st) (d : decode cc pc = .ok (.invokestatic idx, 3)) (k : ∀ v S1, post v S1 → MW Z e cc nL own h (pc + 3) lv (v.toList ++ st) S1) : MW Z e cc nL own h pc lv st0 S := by
  obtain ⟨p, l, ee, R, s, m, args, below, meth, c, A, ⟨ck, cn⟩, Qf⟩ := Z
  intro g H locs ls hl hP hD hS
  have g8 := g.2.2.2.2.2.2.2.1
  have hw := g.2.2.2.2.1
  have hrun := va_runSN (e := ee) (below := below) (meth := meth) (locs := locs) (g := F0 m pc ls st0) (As := As) (rest := st) (cells := ck) (slots := cn) ⟨g.1, g.2.1, g.2.2.1, g.2.2.2.1, hw⟩ (hM l H.size) ⟨va_cnB na hw (gdC w5) rfl rfl rfl (w1 s g.2.2.2.2.2.1.2.1) (hw _ w4) hd ⟨by show h2 + 1 ≤ _; omega, by show 8 + (n2 + 11) + 40 * h2 ≤ _; omega⟩, hw _ w2, trivial⟩ ⟨PRE.blind, (fun U hU hW => ⟨rfl, PRE.of g.2.2.2.2.2.1 g.2.2.2.2.2.2.1 g.2.2.2.2.2.2.2.2.1 g.2.2.2.2.2.2.2.2.2 hP hD hS hU hW⟩)⟩ rfl hn hl.1 he (lv_room hst) d ⟨g8.2.2.1, g8.2.2.2⟩
  exact call_W rfl hrun hS (AA.sub g.2.2.2.2.2.2.2.2.1 g.2.2.2.2.2.2.2.2.2 hS) hD (fun v S1 H1 locs1 hp hP1 hD1 hS1 => k v S1 hp g H1 locs1 ls hl hP1 hD1 hS1)
/-- what a method's end says: an int, the world may change | an int, it stays | void | void, it stays | a long, it stays -/
def pI (Q : Int32 → St → Prop) : Option Value → St → Prop := fun v S1 => ∃ r, v = some (.int r) ∧ Q r S1
def pR (S : St) (Q : Int32 → Prop) : Option Value → St → Prop := fun v S1 => ∃ r, v = some (.int r) ∧ S1 = S ∧ Q r
def pV (Q : St → Prop) : Option Value → St → Prop := fun v S1 => v = none ∧ Q S1
def pN (S : St) (Q : Prop) : Option Value → St → Prop := fun v S1 => v = none ∧ S1 = S ∧ Q
def pL (S : St) (Q : Int64 → Prop) : Option Value → St → Prop := fun v S1 => ∃ r, v = some (.long r) ∧ S1 = S ∧ Q r
theorem kI {P : List Value → St → Prop} {st : List Value} {Q : Int32 → St → Prop} (k : ∀ r S1, Q r S1 → P (.int r :: st) S1) : ∀ v S1, pI Q v S1 → P (v.toList ++ st) S1 := by
  rintro _ S1 ⟨r, rfl, h⟩
  exact k r S1 h
theorem kR {P : List Value → St → Prop} {st : List Value} {S : St} {Q : Int32 → Prop} (k : ∀ r, Q r → P (.int r :: st) S) : ∀ v S1, pR S Q v S1 → P (v.toList ++ st) S1 := by
  rintro _ S1 ⟨r, rfl, rfl, h⟩
  exact k r h
theorem kV {P : List Value → St → Prop} {st : List Value} {Q : St → Prop} (k : ∀ S1, Q S1 → P st S1) : ∀ v S1, pV Q v S1 → P (v.toList ++ st) S1 := by
  rintro _ S1 ⟨rfl, h⟩
  exact k S1 h
theorem kN {P : List Value → St → Prop} {st : List Value} {S : St} {Q : Prop} (k : Q → P st S) : ∀ v S1, pN S Q v S1 → P (v.toList ++ st) S1 := by
  rintro _ S1 ⟨rfl, rfl, h⟩
  exact k h
theorem kL {P : List Value → St → Prop} {st : List Value} {S : St} {Q : Int64 → Prop} (k : ∀ r, Q r → P (.long r :: st) S) : ∀ v S1, pL S Q v S1 → P (v.toList ++ st) S1 := by
  rintro _ S1 ⟨r, rfl, rfl, h⟩
  exact k r h

