/-! THE CLAIM OUT OF ONE WALK OF THE LAW'S BODY. Your part is whole_start (and what it stands on); all else here is the same for every law, but numbers. -/
def R_law : String := "LeanedBarsLaw"
def lw_P (b : Addr) (xs : List Int32) (args : Array Value) (s : State) : Prop := args = #[.ref b] ∧ s.IntsAt b xs ∧ xs.length ≤ 320 ∧ (Jvm.Cond.and given_1 narrow_1).before args s = true
def lw_Q (_ : Array Value) (s : State) (o : Outcome) (t : State) : Prop := o = .returned (some (.int 1)) ∧ Framed s o t [] 600000 7302250
def lw_Z (below : List Frame) (a : Array Value) (s : State) : State → Prop := fun t => ∃ o, t.status = .running ∧ Ended t below o ∧ lw_Q a s o t
/-- the law's own end, with 1 on the stack, nothing written that was there before, its room as the claim has it -/
theorem lw_ret {p : Program} {l : Launch} {e : Env} {s : State} {m : MethodId} {below : List Frame} {meth : Method} {c : Code} {b : Nat} (hx : p.tables.exec = Jvm.exec) (hb : c.code = code) (hr : meth.sig.returnType = ret) (hlocks : meth.locks = false) {pc : Nat} {H : Heap} {ls : Array Slot} (hdg : decode code pc = .ok (.ireturn, 1)) : W p l e room_1 s m #[Value.ref b] below meth c H [] 600000 7302250 (lw_Z below #[Value.ref b] s) (F0 m pc ls [.int 1]) := by
  intro T hT X
  obtain ⟨fs, hret, hrun, hended, hW, hframe⟩ := X.leave (v := some (.int 1)) (hlocks := hlocks) (fun h => by rw [hr] at h; cases h)
  have hmeth' : T.vm.method? m = some meth := X.method'
  refine ⟨T.setFrames fs, ?_, .returned (some (.int 1)), hrun, hended, rfl, ⟨_, rfl⟩, hW, hframe⟩
  jvm_step X.here [X.here.top, hx, hb, hdg, hmeth', hr, ret, narrow_b1]
  (try refine ⟨rfl, ?_⟩); (try refine ⟨rfl, ?_⟩)
  first | (intro acts; rw [hret _ acts rfl rfl rfl]) | rw [hret _ _ rfl rfl rfl]
  exact Steps.refl _
/-- what holds at the law's entry: the machine, the code, the tables' words (any of lw_tbl by 'hts w (by decide +kernel)'), the script of L ints xs at the cell b, what the Statement gives of the start (any of its parts by flat_of_before) -/
def lw_At (p : Program) (s : State) (m : MethodId) (meth : Method) (c : Code) (b L : Nat) (xs : Nat → Int32) : Prop :=
  p.tables.exec = Jvm.exec ∧ c.code = code ∧ meth.sig.returnType = ret ∧ c.maxLocals = 4 ∧ s.vm.findClass R_law = some m.cls ∧ (∀ w ∈ lw_tbl, w.before #[Value.ref b] s = true) ∧ va_X b L xs s s.heap ∧ b < s.heap.size ∧ meth.locks = false ∧ (Jvm.Cond.and given_1 narrow_1).before #[Value.ref b] s = true

/-- the words of wsL_law are words of the tables -/
theorem tb_all : ∀ w ∈ wsL_law, w ∈ lw_tbl := List.forall_mem_append.mpr ⟨List.forall_mem_append.mpr ⟨List.forall_mem_append.mpr ⟨List.forall_mem_append.mpr ⟨List.forall_mem_append.mpr ⟨List.forall_mem_append.mpr ⟨List.forall_mem_append.mpr ⟨List.forall_mem_append.mpr ⟨List.forall_mem_append.mpr ⟨List.forall_mem_append.mpr ⟨tb_r1, List.forall_mem_append.mpr ⟨tb_r2, List.forall_mem_append.mpr ⟨tb_r3, List.forall_mem_append.mpr ⟨tb_r4, List.forall_mem_append.mpr ⟨tb_r5, List.forall_mem_append.mpr ⟨tb_r6, List.forall_mem_append.mpr ⟨tb_r7, List.forall_mem_append.mpr ⟨tb_r8, List.forall_mem_append.mpr ⟨tb_r9, List.forall_mem_append.mpr ⟨tb_r10, List.forall_mem_append.mpr ⟨tb_r11, List.forall_mem_append.mpr ⟨tb_r12, List.forall_mem_append.mpr ⟨tb_r13, List.forall_mem_append.mpr ⟨tb_r14, List.forall_mem_append.mpr ⟨tb_r15, List.forall_mem_append.mpr ⟨tb_r16, List.forall_mem_append.mpr ⟨tb_r17, List.forall_mem_append.mpr ⟨tb_r18, List.forall_mem_append.mpr ⟨tb_r19, List.forall_mem_append.mpr ⟨tb_r20, List.forall_mem_append.mpr ⟨tb_r21, List.forall_mem_append.mpr ⟨tb_r22, List.forall_mem_append.mpr ⟨tb_r23, List.forall_mem_append.mpr ⟨tb_r24, List.forall_mem_append.mpr ⟨tb_r25, List.forall_mem_append.mpr ⟨tb_r26, List.forall_mem_append.mpr ⟨tb_r27, List.forall_mem_append.mpr ⟨tb_r28, List.forall_mem_append.mpr ⟨tb_r29, List.forall_mem_append.mpr ⟨tb_r30, List.forall_mem_append.mpr ⟨tb_r31, List.forall_mem_append.mpr ⟨tb_r32, tb_r33⟩⟩⟩⟩⟩⟩⟩⟩⟩⟩⟩⟩⟩⟩⟩⟩⟩⟩⟩⟩⟩⟩⟩⟩⟩⟩⟩⟩⟩⟩⟩⟩, tb_c6⟩, tb_c7⟩, tb_c3⟩, tb_c2⟩, tb_c1⟩, tb_c5⟩, tb_c0⟩, tb_c4⟩, fun _ h => absurd h List.not_mem_nil⟩
/-- the law's script, a cell that nobody changes -/
def SX (Z : Zt) (b L : Nat) (xs : Nat → Int32) : Prop := match Z with
  | (_, _, _, _, s, _, _, _, _, _, A, _, _) => va_X b L xs s s.heap ∧ b < s.heap.size ∧ ¬ A b
theorem m_sld {Z : Zt} {e : GE} {cc : ByteArray} {nL : Nat} {own : String} {h pc : Nat} {lv : List (Nat × Value)} {st : List Value} {S : St} {b L : Nat} {xs : Nat → Int32} {i : Int32} (hX : SX Z b L xs) (hin : vp_in i L) (d : decode cc pc = .ok (.iaload, 1)) (k : MW Z e cc nL own h (pc + 1) lv (.int (xs i.toNatClampNeg) :: st) S) : MW Z e cc nL own h pc lv (.int i :: .ref b :: st) S := by
  obtain ⟨p, l, ee, R, s, m, args, below, meth, c, A, ⟨ck, cn⟩, Qf⟩ := Z
  intro g H locs ls hl hP hD hS
  exact va_sld g.1 g.2.1 hX.1 hX.2.1 hX.2.2 hS hin d (k g H locs ls hl hP hD hS)
theorem m_slen {Z : Zt} {e : GE} {cc : ByteArray} {nL : Nat} {own : String} {h pc : Nat} {lv : List (Nat × Value)} {st : List Value} {S : St} {b L : Nat} {xs : Nat → Int32} (hX : SX Z b L xs) (d : decode cc pc = .ok (.arraylength, 1)) (k : MW Z e cc nL own h (pc + 1) lv (.int (Int32.ofNat L) :: st) S) : MW Z e cc nL own h pc lv (.ref b :: st) S := by
  obtain ⟨p, l, ee, R, s, m, args, below, meth, c, A, ⟨ck, cn⟩, Qf⟩ := Z
  intro g H locs ls hl hP hD hS
  exact va_slen g.1 g.2.1 hX.1 hX.2.1 hX.2.2 hS d (k g H locs ls hl hP hD hS)
theorem lcmp_eq {x y : Int64} (h : x = y) : lg_cmp x y = 0 := (lg_cmp_eq x y).mpr h
