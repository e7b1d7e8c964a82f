theorem cell_cong {cA : ClassId} {n : Nat} {f f2 : Nat → Int32} (h : ∀ j, j < n → f j = f2 j) : vp_cell cA (n, .inl f) = vp_cell cA (n, .inl f2) := by
  have e1 : (Array.ofFn fun j : Fin n => Value.int (f j)) = Array.ofFn fun j : Fin n => Value.int (f2 j) := by
    congr 1
    funext j
    rw [h j j.isLt]
  first
    | (simp only [vp_cell, arrV, e1]; done)
    | (simp [vp_cell, arrV, e1]; done)
    | (simp only [vp_cell, arrV]
       congr 1
       apply Array.ext
       · simp
       · intro i h1 h2
         simp at h1 h2 ⊢
         exact h i (by omega))
theorem P_cong {D : va_G} {cl : List vw_C} {ws : va_W} {q a : Nat} {e0 : va_E} {cA : ClassId} {n : Nat} {f f2 : Nat → Int32} {H : Heap} (hq : ws[q]? = some (a, e0)) (hc : vp_cell cA (n, .inl f) = vp_cell cA (n, .inl f2)) (h : va_P D cl (ws.set q (a, .inl (cA, n, .inl f))) H) : va_P D cl (ws.set q (a, .inl (cA, n, .inl f2))) H := by
  intro k x hx
  by_cases hk : k = q
  · subst hk
    have hlt : k < ws.length := (List.getElem?_eq_some_iff.mp hq).1
    rw [List.getElem?_set_self hlt] at hx
    obtain rfl := Option.some.inj hx
    have h1 := h k (a, .inl (cA, n, .inl f)) (List.getElem?_set_self hlt)
    show H[a]? = some (vp_cell cA (n, .inl f2))
    rw [← hc]
    exact h1
  · rw [List.getElem?_set_ne (fun z => hk z.symm)] at hx
    exact h k x (by rw [List.getElem?_set_ne (fun z => hk z.symm)]; exact hx)
theorem m_iconst {Z : Zt} {e : GE} {cc : ByteArray} {nL : Nat} {own : String} {h pc : Nat} {lv : List (Nat × Value)} {st : List Value} {S : St} {n : Int} {v : Int32} (d : decode cc pc = .ok (.iconst n, 1)) (hv : Int32.ofInt n = v) (k : MW Z e cc nL own h (pc + 1) lv (.int v :: st) S) : MW Z e cc nL own h pc lv st S := by
  obtain ⟨p, l, ee, R, s, m, args, below, meth, c, A, ⟨ck, cn⟩, Qf⟩ := Z
  intro g H locs ls hl hP hD hS
  exact lv_iconst g.1 g.2.1 d hv (k g H locs ls hl hP hD hS)
theorem m_bipush {Z : Zt} {e : GE} {cc : ByteArray} {nL : Nat} {own : String} {h pc : Nat} {lv : List (Nat × Value)} {st : List Value} {S : St} {n : Int} {v : Int32} (d : decode cc pc = .ok (.bipush n, 2)) (hv : (Int8.ofInt n).toInt32 = v) (k : MW Z e cc nL own h (pc + 2) lv (.int v :: st) S) : MW Z e cc nL own h pc lv st S := by
  obtain ⟨p, l, ee, R, s, m, args, below, meth, c, A, ⟨ck, cn⟩, Qf⟩ := Z
  intro g H locs ls hl hP hD hS
  exact lv_bipush g.1 g.2.1 d hv (k g H locs ls hl hP hD hS)
theorem m_sipush {Z : Zt} {e : GE} {cc : ByteArray} {nL : Nat} {own : String} {h pc : Nat} {lv : List (Nat × Value)} {st : List Value} {S : St} {n : Int} {v : Int32} (d : decode cc pc = .ok (.sipush n, 3)) (hv : (Int16.ofInt n).toInt32 = v) (k : MW Z e cc nL own h (pc + 3) lv (.int v :: st) S) : MW Z e cc nL own h pc lv st S := by
  obtain ⟨p, l, ee, R, s, m, args, below, meth, c, A, ⟨ck, cn⟩, Qf⟩ := Z
  intro g H locs ls hl hP hD hS
  exact lv_sipush g.1 g.2.1 d hv (k g H locs ls hl hP hD hS)
theorem m_lconst {Z : Zt} {e : GE} {cc : ByteArray} {nL : Nat} {own : String} {h pc : Nat} {lv : List (Nat × Value)} {st : List Value} {S : St} {n : Fin 2} {v : Int64} (d : decode cc pc = .ok (.lconst n, 1)) (hv : Int64.ofNat (n : Nat) = v) (k : MW Z e cc nL own h (pc + 1) lv (.long v :: st) S) : MW Z e cc nL own h pc lv st S := by
  obtain ⟨p, l, ee, R, s, m, args, below, meth, c, A, ⟨ck, cn⟩, Qf⟩ := Z
  intro g H locs ls hl hP hD hS
  exact lv_lconst g.1 g.2.1 d hv (k g H locs ls hl hP hD hS)
theorem m_iload {Z : Zt} {e : GE} {cc : ByteArray} {nL : Nat} {own : String} {h pc : Nat} {lv : List (Nat × Value)} {st : List Value} {S : St} {i : Nat} {x : Int32} (d : decode cc pc = .ok (.iload i, 2)) (q : Nat) (hk : lv[q]? = some (i, .int x)) (k : MW Z e cc nL own h (pc + 2) lv (.int x :: st) S) : MW Z e cc nL own h pc lv st S := by
  obtain ⟨p, l, ee, R, s, m, args, below, meth, c, A, ⟨ck, cn⟩, Qf⟩ := Z
  intro g H locs ls hl hP hD hS
  exact lv_iload g.1 g.2.1 d (lv_at hl q hk) (k g H locs ls hl hP hD hS)
theorem m_iload_n {Z : Zt} {e : GE} {cc : ByteArray} {nL : Nat} {own : String} {h pc : Nat} {lv : List (Nat × Value)} {st : List Value} {S : St} {n : Fin 4} {i : Nat} {x : Int32} (d : decode cc pc = .ok (.iload_n n, 1)) (q : Nat) (hi : (n : Nat) = i) (hk : lv[q]? = some (i, .int x)) (k : MW Z e cc nL own h (pc + 1) lv (.int x :: st) S) : MW Z e cc nL own h pc lv st S := by
  obtain ⟨p, l, ee, R, s, m, args, below, meth, c, A, ⟨ck, cn⟩, Qf⟩ := Z
  intro g H locs ls hl hP hD hS
  exact lv_iload_n g.1 g.2.1 d hi (lv_at hl q hk) (k g H locs ls hl hP hD hS)
theorem m_lload {Z : Zt} {e : GE} {cc : ByteArray} {nL : Nat} {own : String} {h pc : Nat} {lv : List (Nat × Value)} {st : List Value} {S : St} {i : Nat} {x : Int64} (d : decode cc pc = .ok (.lload i, 2)) (q : Nat) (hk : lv[q]? = some (i, .long x)) (k : MW Z e cc nL own h (pc + 2) lv (.long x :: st) S) : MW Z e cc nL own h pc lv st S := by
  obtain ⟨p, l, ee, R, s, m, args, below, meth, c, A, ⟨ck, cn⟩, Qf⟩ := Z
  intro g H locs ls hl hP hD hS
  exact lv_lload g.1 g.2.1 d (lv_at hl q hk) (k g H locs ls hl hP hD hS)
theorem m_lload_n {Z : Zt} {e : GE} {cc : ByteArray} {nL : Nat} {own : String} {h pc : Nat} {lv : List (Nat × Value)} {st : List Value} {S : St} {n : Fin 4} {i : Nat} {x : Int64} (d : decode cc pc = .ok (.lload_n n, 1)) (q : Nat) (hi : (n : Nat) = i) (hk : lv[q]? = some (i, .long x)) (k : MW Z e cc nL own h (pc + 1) lv (.long x :: st) S) : MW Z e cc nL own h pc lv st S := by
  obtain ⟨p, l, ee, R, s, m, args, below, meth, c, A, ⟨ck, cn⟩, Qf⟩ := Z
  intro g H locs ls hl hP hD hS
  exact lv_lload_n g.1 g.2.1 d hi (lv_at hl q hk) (k g H locs ls hl hP hD hS)
theorem m_aload {Z : Zt} {e : GE} {cc : ByteArray} {nL : Nat} {own : String} {h pc : Nat} {lv : List (Nat × Value)} {st : List Value} {S : St} {i : Nat} {x : Nat} (d : decode cc pc = .ok (.aload i, 2)) (q : Nat) (hk : lv[q]? = some (i, .ref x)) (k : MW Z e cc nL own h (pc + 2) lv (.ref x :: st) S) : MW Z e cc nL own h pc lv st S := by
  obtain ⟨p, l, ee, R, s, m, args, below, meth, c, A, ⟨ck, cn⟩, Qf⟩ := Z
  intro g H locs ls hl hP hD hS
  exact lv_aload g.1 g.2.1 d (lv_at hl q hk) (k g H locs ls hl hP hD hS)
theorem m_aload_n {Z : Zt} {e : GE} {cc : ByteArray} {nL : Nat} {own : String} {h pc : Nat} {lv : List (Nat × Value)} {st : List Value} {S : St} {n : Fin 4} {i : Nat} {x : Nat} (d : decode cc pc = .ok (.aload_n n, 1)) (q : Nat) (hi : (n : Nat) = i) (hk : lv[q]? = some (i, .ref x)) (k : MW Z e cc nL own h (pc + 1) lv (.ref x :: st) S) : MW Z e cc nL own h pc lv st S := by
  obtain ⟨p, l, ee, R, s, m, args, below, meth, c, A, ⟨ck, cn⟩, Qf⟩ := Z
  intro g H locs ls hl hP hD hS
  exact lv_aload_n g.1 g.2.1 d hi (lv_at hl q hk) (k g H locs ls hl hP hD hS)
theorem m_istore {Z : Zt} {e : GE} {cc : ByteArray} {nL : Nat} {own : String} {h pc : Nat} {lv : List (Nat × Value)} {st : List Value} {S : St} {i : Nat} {x : Int32} {lv2 : List (Nat × Value)} (d : decode cc pc = .ok (.istore i, 2)) (hn : i < nL) (hv : (i, (.int x : Value)) :: lv.filter (fun q => !(q.1 == i) && !(q.1 + 1 == i && q.2.category == 2)) = lv2) (k : MW Z e cc nL own h (pc + 2) lv2 st S) : MW Z e cc nL own h pc lv (.int x :: st) S := by
  obtain ⟨p, l, ee, R, s, m, args, below, meth, c, A, ⟨ck, cn⟩, Qf⟩ := Z
  intro g H locs ls hl hP hD hS
  exact lv_istore g.1 g.2.1 d hl hn hv (fun ls2 hl2 => k g H locs ls2 hl2 hP hD hS)
theorem m_istore_n {Z : Zt} {e : GE} {cc : ByteArray} {nL : Nat} {own : String} {h pc : Nat} {lv : List (Nat × Value)} {st : List Value} {S : St} {n : Fin 4} {i : Nat} {x : Int32} {lv2 : List (Nat × Value)} (d : decode cc pc = .ok (.istore_n n, 1)) (hi : (n : Nat) = i) (hn : i < nL) (hv : (i, (.int x : Value)) :: lv.filter (fun q => !(q.1 == i) && !(q.1 + 1 == i && q.2.category == 2)) = lv2) (k : MW Z e cc nL own h (pc + 1) lv2 st S) : MW Z e cc nL own h pc lv (.int x :: st) S := by
  obtain ⟨p, l, ee, R, s, m, args, below, meth, c, A, ⟨ck, cn⟩, Qf⟩ := Z
  intro g H locs ls hl hP hD hS
  exact lv_istore_n g.1 g.2.1 d hi hl hn hv (fun ls2 hl2 => k g H locs ls2 hl2 hP hD hS)
theorem m_astore {Z : Zt} {e : GE} {cc : ByteArray} {nL : Nat} {own : String} {h pc : Nat} {lv : List (Nat × Value)} {st : List Value} {S : St} {i : Nat} {x : Nat} {lv2 : List (Nat × Value)} (d : decode cc pc = .ok (.astore i, 2)) (hn : i < nL) (hv : (i, (.ref x : Value)) :: lv.filter (fun q => !(q.1 == i) && !(q.1 + 1 == i && q.2.category == 2)) = lv2) (k : MW Z e cc nL own h (pc + 2) lv2 st S) : MW Z e cc nL own h pc lv (.ref x :: st) S := by
  obtain ⟨p, l, ee, R, s, m, args, below, meth, c, A, ⟨ck, cn⟩, Qf⟩ := Z
  intro g H locs ls hl hP hD hS
  exact lv_astore g.1 g.2.1 d hl hn hv (fun ls2 hl2 => k g H locs ls2 hl2 hP hD hS)
theorem m_astore_n {Z : Zt} {e : GE} {cc : ByteArray} {nL : Nat} {own : String} {h pc : Nat} {lv : List (Nat × Value)} {st : List Value} {S : St} {n : Fin 4} {i : Nat} {x : Nat} {lv2 : List (Nat × Value)} (d : decode cc pc = .ok (.astore_n n, 1)) (hi : (n : Nat) = i) (hn : i < nL) (hv : (i, (.ref x : Value)) :: lv.filter (fun q => !(q.1 == i) && !(q.1 + 1 == i && q.2.category == 2)) = lv2) (k : MW Z e cc nL own h (pc + 1) lv2 st S) : MW Z e cc nL own h pc lv (.ref x :: st) S := by
  obtain ⟨p, l, ee, R, s, m, args, below, meth, c, A, ⟨ck, cn⟩, Qf⟩ := Z
  intro g H locs ls hl hP hD hS
  exact lv_astore_n g.1 g.2.1 d hi hl hn hv (fun ls2 hl2 => k g H locs ls2 hl2 hP hD hS)
theorem m_lstore {Z : Zt} {e : GE} {cc : ByteArray} {nL : Nat} {own : String} {h pc : Nat} {lv : List (Nat × Value)} {st : List Value} {S : St} {i : Nat} {x : Int64} {lv2 : List (Nat × Value)} (d : decode cc pc = .ok (.lstore i, 2)) (hn : i + 1 < nL) (hv : (i, (.long x : Value)) :: lv.filter (fun q => !(q.1 == i) && (!(q.1 == i + 1) && !(q.1 + 1 == i && q.2.category == 2))) = lv2) (k : MW Z e cc nL own h (pc + 2) lv2 st S) : MW Z e cc nL own h pc lv (.long x :: st) S := by
  obtain ⟨p, l, ee, R, s, m, args, below, meth, c, A, ⟨ck, cn⟩, Qf⟩ := Z
  intro g H locs ls hl hP hD hS
  exact lv_lstore g.1 g.2.1 d hl hn hv (fun ls2 hl2 => k g H locs ls2 hl2 hP hD hS)
theorem m_lstore_n {Z : Zt} {e : GE} {cc : ByteArray} {nL : Nat} {own : String} {h pc : Nat} {lv : List (Nat × Value)} {st : List Value} {S : St} {n : Fin 4} {i : Nat} {x : Int64} {lv2 : List (Nat × Value)} (d : decode cc pc = .ok (.lstore_n n, 1)) (hi : (n : Nat) = i) (hn : i + 1 < nL) (hv : (i, (.long x : Value)) :: lv.filter (fun q => !(q.1 == i) && (!(q.1 == i + 1) && !(q.1 + 1 == i && q.2.category == 2))) = lv2) (k : MW Z e cc nL own h (pc + 1) lv2 st S) : MW Z e cc nL own h pc lv (.long x :: st) S := by
  obtain ⟨p, l, ee, R, s, m, args, below, meth, c, A, ⟨ck, cn⟩, Qf⟩ := Z
  intro g H locs ls hl hP hD hS
  exact lv_lstore_n g.1 g.2.1 d hi hl hn hv (fun ls2 hl2 => k g H locs ls2 hl2 hP hD hS)
theorem m_iinc {Z : Zt} {e : GE} {cc : ByteArray} {nL : Nat} {own : String} {h pc : Nat} {lv : List (Nat × Value)} {st : List Value} {S : St} {i : Nat} {n : Int} {x v : Int32} {lv2 : List (Nat × Value)} (d : decode cc pc = .ok (.iinc i n, 3)) (q : Nat) (hk : lv[q]? = some (i, .int x)) (hx : x + Int32.ofInt n = v) (hn : i < nL) (hv : (i, (.int v : Value)) :: lv.filter (fun q => !(q.1 == i) && !(q.1 + 1 == i && q.2.category == 2)) = lv2) (k : MW Z e cc nL own h (pc + 3) lv2 st S) : MW Z e cc nL own h pc lv st S := by
  obtain ⟨p, l, ee, R, s, m, args, below, meth, c, A, ⟨ck, cn⟩, Qf⟩ := Z
  intro g H locs ls hl hP hD hS
  exact lv_iinc g.1 g.2.1 d hl hk hx hn hv (fun ls2 hl2 => k g H locs ls2 hl2 hP hD hS)
theorem m_loc {Z : Zt} {e : GE} {cc : ByteArray} {nL : Nat} {own : String} {h pc : Nat} {lv : List (Nat × Value)} {st : List Value} {S : St} {lv2 : List (Nat × Value)} (ks : List Nat) (hv : lv_pick lv ks = lv2) (k : MW Z e cc nL own h pc lv2 st S) : MW Z e cc nL own h pc lv st S := by
  obtain ⟨p, l, ee, R, s, m, args, below, meth, c, A, ⟨ck, cn⟩, Qf⟩ := Z
  intro g H locs ls hl hP hD hS
  exact k g H locs ls (lv_sub hl ks hv) hP hD hS
theorem m_iadd {Z : Zt} {e : GE} {cc : ByteArray} {nL : Nat} {own : String} {h pc : Nat} {lv : List (Nat × Value)} {st : List Value} {S : St} {x y : Int32} (d : decode cc pc = .ok (.iadd, 1))  (k : MW Z e cc nL own h (pc + 1) lv (.int (x + y) :: st) S) : MW Z e cc nL own h pc lv (.int y :: .int x :: st) S := by
  obtain ⟨p, l, ee, R, s, m, args, below, meth, c, A, ⟨ck, cn⟩, Qf⟩ := Z
  intro g H locs ls hl hP hD hS
  exact lv_iadd g.1 g.2.1 d  (k g H locs ls hl hP hD hS)
theorem m_isub {Z : Zt} {e : GE} {cc : ByteArray} {nL : Nat} {own : String} {h pc : Nat} {lv : List (Nat × Value)} {st : List Value} {S : St} {x y : Int32} (d : decode cc pc = .ok (.isub, 1))  (k : MW Z e cc nL own h (pc + 1) lv (.int (x - y) :: st) S) : MW Z e cc nL own h pc lv (.int y :: .int x :: st) S := by
  obtain ⟨p, l, ee, R, s, m, args, below, meth, c, A, ⟨ck, cn⟩, Qf⟩ := Z
  intro g H locs ls hl hP hD hS
  exact lv_isub g.1 g.2.1 d  (k g H locs ls hl hP hD hS)
theorem m_imul {Z : Zt} {e : GE} {cc : ByteArray} {nL : Nat} {own : String} {h pc : Nat} {lv : List (Nat × Value)} {st : List Value} {S : St} {x y : Int32} (d : decode cc pc = .ok (.imul, 1))  (k : MW Z e cc nL own h (pc + 1) lv (.int (x * y) :: st) S) : MW Z e cc nL own h pc lv (.int y :: .int x :: st) S := by
  obtain ⟨p, l, ee, R, s, m, args, below, meth, c, A, ⟨ck, cn⟩, Qf⟩ := Z
  intro g H locs ls hl hP hD hS
  exact lv_imul g.1 g.2.1 d  (k g H locs ls hl hP hD hS)
theorem m_iand {Z : Zt} {e : GE} {cc : ByteArray} {nL : Nat} {own : String} {h pc : Nat} {lv : List (Nat × Value)} {st : List Value} {S : St} {x y : Int32} (d : decode cc pc = .ok (.iand, 1))  (k : MW Z e cc nL own h (pc + 1) lv (.int (x &&& y) :: st) S) : MW Z e cc nL own h pc lv (.int y :: .int x :: st) S := by
  obtain ⟨p, l, ee, R, s, m, args, below, meth, c, A, ⟨ck, cn⟩, Qf⟩ := Z
  intro g H locs ls hl hP hD hS
  exact lv_iand g.1 g.2.1 d  (k g H locs ls hl hP hD hS)
theorem m_ior {Z : Zt} {e : GE} {cc : ByteArray} {nL : Nat} {own : String} {h pc : Nat} {lv : List (Nat × Value)} {st : List Value} {S : St} {x y : Int32} (d : decode cc pc = .ok (.ior, 1))  (k : MW Z e cc nL own h (pc + 1) lv (.int (x ||| y) :: st) S) : MW Z e cc nL own h pc lv (.int y :: .int x :: st) S := by
  obtain ⟨p, l, ee, R, s, m, args, below, meth, c, A, ⟨ck, cn⟩, Qf⟩ := Z
  intro g H locs ls hl hP hD hS
  exact lv_ior g.1 g.2.1 d  (k g H locs ls hl hP hD hS)
theorem m_ixor {Z : Zt} {e : GE} {cc : ByteArray} {nL : Nat} {own : String} {h pc : Nat} {lv : List (Nat × Value)} {st : List Value} {S : St} {x y : Int32} (d : decode cc pc = .ok (.ixor, 1))  (k : MW Z e cc nL own h (pc + 1) lv (.int (x ^^^ y) :: st) S) : MW Z e cc nL own h pc lv (.int y :: .int x :: st) S := by
  obtain ⟨p, l, ee, R, s, m, args, below, meth, c, A, ⟨ck, cn⟩, Qf⟩ := Z
  intro g H locs ls hl hP hD hS
  exact lv_ixor g.1 g.2.1 d  (k g H locs ls hl hP hD hS)
theorem m_ishl {Z : Zt} {e : GE} {cc : ByteArray} {nL : Nat} {own : String} {h pc : Nat} {lv : List (Nat × Value)} {st : List Value} {S : St} {x y : Int32} (d : decode cc pc = .ok (.ishl, 1))  (k : MW Z e cc nL own h (pc + 1) lv (.int (x <<< (y &&& 31)) :: st) S) : MW Z e cc nL own h pc lv (.int y :: .int x :: st) S := by
  obtain ⟨p, l, ee, R, s, m, args, below, meth, c, A, ⟨ck, cn⟩, Qf⟩ := Z
  intro g H locs ls hl hP hD hS
  exact lv_ishl g.1 g.2.1 d  (k g H locs ls hl hP hD hS)
theorem m_ishr {Z : Zt} {e : GE} {cc : ByteArray} {nL : Nat} {own : String} {h pc : Nat} {lv : List (Nat × Value)} {st : List Value} {S : St} {x y : Int32} (d : decode cc pc = .ok (.ishr, 1))  (k : MW Z e cc nL own h (pc + 1) lv (.int (x >>> (y &&& 31)) :: st) S) : MW Z e cc nL own h pc lv (.int y :: .int x :: st) S := by
  obtain ⟨p, l, ee, R, s, m, args, below, meth, c, A, ⟨ck, cn⟩, Qf⟩ := Z
  intro g H locs ls hl hP hD hS
  exact lv_ishr g.1 g.2.1 d  (k g H locs ls hl hP hD hS)
theorem m_idiv {Z : Zt} {e : GE} {cc : ByteArray} {nL : Nat} {own : String} {h pc : Nat} {lv : List (Nat × Value)} {st : List Value} {S : St} {x y : Int32} (d : decode cc pc = .ok (.idiv, 1)) (hne : ¬ y = 0) (k : MW Z e cc nL own h (pc + 1) lv (.int (x / y) :: st) S) : MW Z e cc nL own h pc lv (.int y :: .int x :: st) S := by
  obtain ⟨p, l, ee, R, s, m, args, below, meth, c, A, ⟨ck, cn⟩, Qf⟩ := Z
  intro g H locs ls hl hP hD hS
  exact lv_idiv g.1 g.2.1 d hne (k g H locs ls hl hP hD hS)
theorem m_irem {Z : Zt} {e : GE} {cc : ByteArray} {nL : Nat} {own : String} {h pc : Nat} {lv : List (Nat × Value)} {st : List Value} {S : St} {x y : Int32} (d : decode cc pc = .ok (.irem, 1)) (hne : ¬ y = 0) (k : MW Z e cc nL own h (pc + 1) lv (.int (x - x / y * y) :: st) S) : MW Z e cc nL own h pc lv (.int y :: .int x :: st) S := by
  obtain ⟨p, l, ee, R, s, m, args, below, meth, c, A, ⟨ck, cn⟩, Qf⟩ := Z
  intro g H locs ls hl hP hD hS
  exact lv_irem g.1 g.2.1 d hne (k g H locs ls hl hP hD hS)
theorem m_ineg {Z : Zt} {e : GE} {cc : ByteArray} {nL : Nat} {own : String} {h pc : Nat} {lv : List (Nat × Value)} {st : List Value} {S : St} {x : Int32} (d : decode cc pc = .ok (.ineg, 1))  (k : MW Z e cc nL own h (pc + 1) lv (.int (-x) :: st) S) : MW Z e cc nL own h pc lv (.int x :: st) S := by
  obtain ⟨p, l, ee, R, s, m, args, below, meth, c, A, ⟨ck, cn⟩, Qf⟩ := Z
  intro g H locs ls hl hP hD hS
  exact lv_ineg g.1 g.2.1 d  (k g H locs ls hl hP hD hS)
theorem m_ladd {Z : Zt} {e : GE} {cc : ByteArray} {nL : Nat} {own : String} {h pc : Nat} {lv : List (Nat × Value)} {st : List Value} {S : St} {x y : Int64} (d : decode cc pc = .ok (.ladd, 1))  (k : MW Z e cc nL own h (pc + 1) lv (.long (x + y) :: st) S) : MW Z e cc nL own h pc lv (.long y :: .long x :: st) S := by
  obtain ⟨p, l, ee, R, s, m, args, below, meth, c, A, ⟨ck, cn⟩, Qf⟩ := Z
  intro g H locs ls hl hP hD hS
  exact lv_ladd g.1 g.2.1 d  (k g H locs ls hl hP hD hS)
theorem m_lmul {Z : Zt} {e : GE} {cc : ByteArray} {nL : Nat} {own : String} {h pc : Nat} {lv : List (Nat × Value)} {st : List Value} {S : St} {x y : Int64} (d : decode cc pc = .ok (.lmul, 1))  (k : MW Z e cc nL own h (pc + 1) lv (.long (x * y) :: st) S) : MW Z e cc nL own h pc lv (.long y :: .long x :: st) S := by
  obtain ⟨p, l, ee, R, s, m, args, below, meth, c, A, ⟨ck, cn⟩, Qf⟩ := Z
  intro g H locs ls hl hP hD hS
  exact lv_lmul g.1 g.2.1 d  (k g H locs ls hl hP hD hS)
theorem m_land {Z : Zt} {e : GE} {cc : ByteArray} {nL : Nat} {own : String} {h pc : Nat} {lv : List (Nat × Value)} {st : List Value} {S : St} {x y : Int64} (d : decode cc pc = .ok (.land, 1))  (k : MW Z e cc nL own h (pc + 1) lv (.long (x &&& y) :: st) S) : MW Z e cc nL own h pc lv (.long y :: .long x :: st) S := by
  obtain ⟨p, l, ee, R, s, m, args, below, meth, c, A, ⟨ck, cn⟩, Qf⟩ := Z
  intro g H locs ls hl hP hD hS
  exact lv_land g.1 g.2.1 d  (k g H locs ls hl hP hD hS)
theorem m_lor {Z : Zt} {e : GE} {cc : ByteArray} {nL : Nat} {own : String} {h pc : Nat} {lv : List (Nat × Value)} {st : List Value} {S : St} {x y : Int64} (d : decode cc pc = .ok (.lor, 1))  (k : MW Z e cc nL own h (pc + 1) lv (.long (x ||| y) :: st) S) : MW Z e cc nL own h pc lv (.long y :: .long x :: st) S := by
  obtain ⟨p, l, ee, R, s, m, args, below, meth, c, A, ⟨ck, cn⟩, Qf⟩ := Z
  intro g H locs ls hl hP hD hS
  exact lv_lor g.1 g.2.1 d  (k g H locs ls hl hP hD hS)
theorem m_i2l {Z : Zt} {e : GE} {cc : ByteArray} {nL : Nat} {own : String} {h pc : Nat} {lv : List (Nat × Value)} {st : List Value} {S : St} {x : Int32} (d : decode cc pc = .ok (.i2l, 1))  (k : MW Z e cc nL own h (pc + 1) lv (.long x.toInt64 :: st) S) : MW Z e cc nL own h pc lv (.int x :: st) S := by
  obtain ⟨p, l, ee, R, s, m, args, below, meth, c, A, ⟨ck, cn⟩, Qf⟩ := Z
  intro g H locs ls hl hP hD hS
  exact lv_i2l g.1 g.2.1 d rfl (k g H locs ls hl hP hD hS)
theorem m_l2i {Z : Zt} {e : GE} {cc : ByteArray} {nL : Nat} {own : String} {h pc : Nat} {lv : List (Nat × Value)} {st : List Value} {S : St} {x : Int64} (d : decode cc pc = .ok (.l2i, 1))  (k : MW Z e cc nL own h (pc + 1) lv (.int x.toInt32 :: st) S) : MW Z e cc nL own h pc lv (.long x :: st) S := by
  obtain ⟨p, l, ee, R, s, m, args, below, meth, c, A, ⟨ck, cn⟩, Qf⟩ := Z
  intro g H locs ls hl hP hD hS
  exact lv_l2i g.1 g.2.1 d rfl (k g H locs ls hl hP hD hS)
theorem m_i2b {Z : Zt} {e : GE} {cc : ByteArray} {nL : Nat} {own : String} {h pc : Nat} {lv : List (Nat × Value)} {st : List Value} {S : St} {x : Int32} (d : decode cc pc = .ok (.i2b, 1))  (k : MW Z e cc nL own h (pc + 1) lv (.int x.toInt8.toInt32 :: st) S) : MW Z e cc nL own h pc lv (.int x :: st) S := by
  obtain ⟨p, l, ee, R, s, m, args, below, meth, c, A, ⟨ck, cn⟩, Qf⟩ := Z
  intro g H locs ls hl hP hD hS
  exact lv_i2b g.1 g.2.1 d rfl (k g H locs ls hl hP hD hS)
theorem m_i2c {Z : Zt} {e : GE} {cc : ByteArray} {nL : Nat} {own : String} {h pc : Nat} {lv : List (Nat × Value)} {st : List Value} {S : St} {x : Int32} (d : decode cc pc = .ok (.i2c, 1))  (k : MW Z e cc nL own h (pc + 1) lv (.int (x.toUInt32 % 65536).toInt32 :: st) S) : MW Z e cc nL own h pc lv (.int x :: st) S := by
  obtain ⟨p, l, ee, R, s, m, args, below, meth, c, A, ⟨ck, cn⟩, Qf⟩ := Z
  intro g H locs ls hl hP hD hS
  exact lv_i2c g.1 g.2.1 d rfl (k g H locs ls hl hP hD hS)
theorem m_lushr {Z : Zt} {e : GE} {cc : ByteArray} {nL : Nat} {own : String} {h pc : Nat} {lv : List (Nat × Value)} {st : List Value} {S : St} {x : Int64} {y : Int32} (d : decode cc pc = .ok (.lushr, 1))  (k : MW Z e cc nL own h (pc + 1) lv (.long (x.toUInt64 >>> (y.toInt64.toUInt64 &&& Int64.toUInt64 63)).toInt64 :: st) S) : MW Z e cc nL own h pc lv (.int y :: .long x :: st) S := by
  obtain ⟨p, l, ee, R, s, m, args, below, meth, c, A, ⟨ck, cn⟩, Qf⟩ := Z
  intro g H locs ls hl hP hD hS
  exact lv_lushr g.1 g.2.1 d rfl (k g H locs ls hl hP hD hS)
theorem m_lshl {Z : Zt} {e : GE} {cc : ByteArray} {nL : Nat} {own : String} {h pc : Nat} {lv : List (Nat × Value)} {st : List Value} {S : St} {x : Int64} {y : Int32} (d : decode cc pc = .ok (.lshl, 1))  (k : MW Z e cc nL own h (pc + 1) lv (.long (x <<< (y.toInt64 &&& 63)) :: st) S) : MW Z e cc nL own h pc lv (.int y :: .long x :: st) S := by
  obtain ⟨p, l, ee, R, s, m, args, below, meth, c, A, ⟨ck, cn⟩, Qf⟩ := Z
  intro g H locs ls hl hP hD hS
  exact lv_lshl g.1 g.2.1 d rfl (k g H locs ls hl hP hD hS)
theorem m_lshr {Z : Zt} {e : GE} {cc : ByteArray} {nL : Nat} {own : String} {h pc : Nat} {lv : List (Nat × Value)} {st : List Value} {S : St} {x : Int64} {y : Int32} (d : decode cc pc = .ok (.lshr, 1))  (k : MW Z e cc nL own h (pc + 1) lv (.long (x >>> (y.toInt64 &&& 63)) :: st) S) : MW Z e cc nL own h pc lv (.int y :: .long x :: st) S := by
  obtain ⟨p, l, ee, R, s, m, args, below, meth, c, A, ⟨ck, cn⟩, Qf⟩ := Z
  intro g H locs ls hl hP hD hS
  exact lv_lshr g.1 g.2.1 d rfl (k g H locs ls hl hP hD hS)
theorem m_lcmp {Z : Zt} {e : GE} {cc : ByteArray} {nL : Nat} {own : String} {h pc : Nat} {lv : List (Nat × Value)} {st : List Value} {S : St} {x y : Int64} (d : decode cc pc = .ok (.lcmp, 1))  (k : MW Z e cc nL own h (pc + 1) lv (.int (lg_cmp x y) :: st) S) : MW Z e cc nL own h pc lv (.long y :: .long x :: st) S := by
  obtain ⟨p, l, ee, R, s, m, args, below, meth, c, A, ⟨ck, cn⟩, Qf⟩ := Z
  intro g H locs ls hl hP hD hS
  exact W.lcmp g.1 g.2.1 d  (k g H locs ls hl hP hD hS)
theorem m_dup {Z : Zt} {e : GE} {cc : ByteArray} {nL : Nat} {own : String} {h pc : Nat} {lv : List (Nat × Value)} {st : List Value} {S : St} {va : Value} (d : decode cc pc = .ok (.dup, 1)) (hc : va.category = 1) (k : MW Z e cc nL own h (pc + 1) lv (va :: va :: st) S) : MW Z e cc nL own h pc lv (va :: st) S := by
  obtain ⟨p, l, ee, R, s, m, args, below, meth, c, A, ⟨ck, cn⟩, Qf⟩ := Z
  intro g H locs ls hl hP hD hS
  exact lv_dup g.1 g.2.1 d hc (k g H locs ls hl hP hD hS)
theorem m_pop {Z : Zt} {e : GE} {cc : ByteArray} {nL : Nat} {own : String} {h pc : Nat} {lv : List (Nat × Value)} {st : List Value} {S : St} {va : Value} (d : decode cc pc = .ok (.pop, 1)) (hc : va.category = 1) (k : MW Z e cc nL own h (pc + 1) lv st S) : MW Z e cc nL own h pc lv (va :: st) S := by
  obtain ⟨p, l, ee, R, s, m, args, below, meth, c, A, ⟨ck, cn⟩, Qf⟩ := Z
  intro g H locs ls hl hP hD hS
  exact lv_pop g.1 g.2.1 d hc (k g H locs ls hl hP hD hS)
theorem m_dup2 {Z : Zt} {e : GE} {cc : ByteArray} {nL : Nat} {own : String} {h pc : Nat} {lv : List (Nat × Value)} {st : List Value} {S : St} {va vb : Value} (d : decode cc pc = .ok (.dup2, 1)) (hc : va.category = 1) (hc2 : vb.category = 1) (k : MW Z e cc nL own h (pc + 1) lv (va :: vb :: va :: vb :: st) S) : MW Z e cc nL own h pc lv (va :: vb :: st) S := by
  obtain ⟨p, l, ee, R, s, m, args, below, meth, c, A, ⟨ck, cn⟩, Qf⟩ := Z
  intro g H locs ls hl hP hD hS
  exact lv_dup2_11 g.1 g.2.1 d hc hc2 (k g H locs ls hl hP hD hS)
theorem m_dup_x1 {Z : Zt} {e : GE} {cc : ByteArray} {nL : Nat} {own : String} {h pc : Nat} {lv : List (Nat × Value)} {st : List Value} {S : St} {va vb : Value} (d : decode cc pc = .ok (.dup_x1, 1)) (hc : va.category = 1) (hc2 : vb.category = 1) (k : MW Z e cc nL own h (pc + 1) lv (va :: vb :: va :: st) S) : MW Z e cc nL own h pc lv (va :: vb :: st) S := by
  obtain ⟨p, l, ee, R, s, m, args, below, meth, c, A, ⟨ck, cn⟩, Qf⟩ := Z
  intro g H locs ls hl hP hD hS
  exact lv_dup_x1 g.1 g.2.1 d hc hc2 (k g H locs ls hl hP hD hS)
theorem m_if_eq {Z : Zt} {e : GE} {cc : ByteArray} {nL : Nat} {own : String} {h pc : Nat} {lv : List (Nat × Value)} {st : List Value} {S : St} {x : Int32} {off : Int} {tgt : Nat} (d : decode cc pc = .ok (.ifCond .eq off, 3)) (ht : (pc : Int) + off = (tgt : Int)) (kt : x = 0 → MW Z e cc nL own h tgt lv st S) (kf : ¬ x = 0 → MW Z e cc nL own h (pc + 3) lv st S) : MW Z e cc nL own h pc lv (.int x :: st) S := by
  obtain ⟨p, l, ee, R, s, m, args, below, meth, c, A, ⟨ck, cn⟩, Qf⟩ := Z
  intro g H locs ls hl hP hD hS
  exact lv_if_eq g.1 g.2.1 d ht (fun z => kt z g H locs ls hl hP hD hS) (fun z => kf z g H locs ls hl hP hD hS)
theorem m_if_ne {Z : Zt} {e : GE} {cc : ByteArray} {nL : Nat} {own : String} {h pc : Nat} {lv : List (Nat × Value)} {st : List Value} {S : St} {x : Int32} {off : Int} {tgt : Nat} (d : decode cc pc = .ok (.ifCond .ne off, 3)) (ht : (pc : Int) + off = (tgt : Int)) (kt : ¬ x = 0 → MW Z e cc nL own h tgt lv st S) (kf : x = 0 → MW Z e cc nL own h (pc + 3) lv st S) : MW Z e cc nL own h pc lv (.int x :: st) S := by
  obtain ⟨p, l, ee, R, s, m, args, below, meth, c, A, ⟨ck, cn⟩, Qf⟩ := Z
  intro g H locs ls hl hP hD hS
  exact lv_if_ne g.1 g.2.1 d ht (fun z => kt z g H locs ls hl hP hD hS) (fun z => kf z g H locs ls hl hP hD hS)
theorem m_if_lt {Z : Zt} {e : GE} {cc : ByteArray} {nL : Nat} {own : String} {h pc : Nat} {lv : List (Nat × Value)} {st : List Value} {S : St} {x : Int32} {off : Int} {tgt : Nat} (d : decode cc pc = .ok (.ifCond .lt off, 3)) (ht : (pc : Int) + off = (tgt : Int)) (kt : x < 0 → MW Z e cc nL own h tgt lv st S) (kf : ¬ x < 0 → MW Z e cc nL own h (pc + 3) lv st S) : MW Z e cc nL own h pc lv (.int x :: st) S := by
  obtain ⟨p, l, ee, R, s, m, args, below, meth, c, A, ⟨ck, cn⟩, Qf⟩ := Z
  intro g H locs ls hl hP hD hS
  exact lv_if_lt g.1 g.2.1 d ht (fun z => kt z g H locs ls hl hP hD hS) (fun z => kf z g H locs ls hl hP hD hS)
theorem m_if_ge {Z : Zt} {e : GE} {cc : ByteArray} {nL : Nat} {own : String} {h pc : Nat} {lv : List (Nat × Value)} {st : List Value} {S : St} {x : Int32} {off : Int} {tgt : Nat} (d : decode cc pc = .ok (.ifCond .ge off, 3)) (ht : (pc : Int) + off = (tgt : Int)) (kt : 0 ≤ x → MW Z e cc nL own h tgt lv st S) (kf : ¬ 0 ≤ x → MW Z e cc nL own h (pc + 3) lv st S) : MW Z e cc nL own h pc lv (.int x :: st) S := by
  obtain ⟨p, l, ee, R, s, m, args, below, meth, c, A, ⟨ck, cn⟩, Qf⟩ := Z
  intro g H locs ls hl hP hD hS
  exact lv_if_ge g.1 g.2.1 d ht (fun z => kt z g H locs ls hl hP hD hS) (fun z => kf z g H locs ls hl hP hD hS)
theorem m_if_gt {Z : Zt} {e : GE} {cc : ByteArray} {nL : Nat} {own : String} {h pc : Nat} {lv : List (Nat × Value)} {st : List Value} {S : St} {x : Int32} {off : Int} {tgt : Nat} (d : decode cc pc = .ok (.ifCond .gt off, 3)) (ht : (pc : Int) + off = (tgt : Int)) (kt : 0 < x → MW Z e cc nL own h tgt lv st S) (kf : ¬ 0 < x → MW Z e cc nL own h (pc + 3) lv st S) : MW Z e cc nL own h pc lv (.int x :: st) S := by
  obtain ⟨p, l, ee, R, s, m, args, below, meth, c, A, ⟨ck, cn⟩, Qf⟩ := Z
  intro g H locs ls hl hP hD hS
  exact lv_if_gt g.1 g.2.1 d ht (fun z => kt z g H locs ls hl hP hD hS) (fun z => kf z g H locs ls hl hP hD hS)
theorem m_if_le {Z : Zt} {e : GE} {cc : ByteArray} {nL : Nat} {own : String} {h pc : Nat} {lv : List (Nat × Value)} {st : List Value} {S : St} {x : Int32} {off : Int} {tgt : Nat} (d : decode cc pc = .ok (.ifCond .le off, 3)) (ht : (pc : Int) + off = (tgt : Int)) (kt : x ≤ 0 → MW Z e cc nL own h tgt lv st S) (kf : ¬ x ≤ 0 → MW Z e cc nL own h (pc + 3) lv st S) : MW Z e cc nL own h pc lv (.int x :: st) S := by
  obtain ⟨p, l, ee, R, s, m, args, below, meth, c, A, ⟨ck, cn⟩, Qf⟩ := Z
  intro g H locs ls hl hP hD hS
  exact lv_if_le g.1 g.2.1 d ht (fun z => kt z g H locs ls hl hP hD hS) (fun z => kf z g H locs ls hl hP hD hS)
theorem m_icmp_eq {Z : Zt} {e : GE} {cc : ByteArray} {nL : Nat} {own : String} {h pc : Nat} {lv : List (Nat × Value)} {st : List Value} {S : St} {x y : Int32} {off : Int} {tgt : Nat} (d : decode cc pc = .ok (.if_icmp .eq off, 3)) (ht : (pc : Int) + off = (tgt : Int)) (kt : x = y → MW Z e cc nL own h tgt lv st S) (kf : ¬ x = y → MW Z e cc nL own h (pc + 3) lv st S) : MW Z e cc nL own h pc lv (.int y :: .int x :: st) S := by
  obtain ⟨p, l, ee, R, s, m, args, below, meth, c, A, ⟨ck, cn⟩, Qf⟩ := Z
  intro g H locs ls hl hP hD hS
  exact lv_icmp_eq g.1 g.2.1 d ht (fun z => kt z g H locs ls hl hP hD hS) (fun z => kf z g H locs ls hl hP hD hS)
theorem m_icmp_ne {Z : Zt} {e : GE} {cc : ByteArray} {nL : Nat} {own : String} {h pc : Nat} {lv : List (Nat × Value)} {st : List Value} {S : St} {x y : Int32} {off : Int} {tgt : Nat} (d : decode cc pc = .ok (.if_icmp .ne off, 3)) (ht : (pc : Int) + off = (tgt : Int)) (kt : ¬ x = y → MW Z e cc nL own h tgt lv st S) (kf : x = y → MW Z e cc nL own h (pc + 3) lv st S) : MW Z e cc nL own h pc lv (.int y :: .int x :: st) S := by
  obtain ⟨p, l, ee, R, s, m, args, below, meth, c, A, ⟨ck, cn⟩, Qf⟩ := Z
  intro g H locs ls hl hP hD hS
  exact lv_icmp_ne g.1 g.2.1 d ht (fun z => kt z g H locs ls hl hP hD hS) (fun z => kf z g H locs ls hl hP hD hS)
theorem m_icmp_lt {Z : Zt} {e : GE} {cc : ByteArray} {nL : Nat} {own : String} {h pc : Nat} {lv : List (Nat × Value)} {st : List Value} {S : St} {x y : Int32} {off : Int} {tgt : Nat} (d : decode cc pc = .ok (.if_icmp .lt off, 3)) (ht : (pc : Int) + off = (tgt : Int)) (kt : x < y → MW Z e cc nL own h tgt lv st S) (kf : ¬ x < y → MW Z e cc nL own h (pc + 3) lv st S) : MW Z e cc nL own h pc lv (.int y :: .int x :: st) S := by
  obtain ⟨p, l, ee, R, s, m, args, below, meth, c, A, ⟨ck, cn⟩, Qf⟩ := Z
  intro g H locs ls hl hP hD hS
  exact lv_icmp_lt g.1 g.2.1 d ht (fun z => kt z g H locs ls hl hP hD hS) (fun z => kf z g H locs ls hl hP hD hS)
theorem m_icmp_ge {Z : Zt} {e : GE} {cc : ByteArray} {nL : Nat} {own : String} {h pc : Nat} {lv : List (Nat × Value)} {st : List Value} {S : St} {x y : Int32} {off : Int} {tgt : Nat} (d : decode cc pc = .ok (.if_icmp .ge off, 3)) (ht : (pc : Int) + off = (tgt : Int)) (kt : y ≤ x → MW Z e cc nL own h tgt lv st S) (kf : ¬ y ≤ x → MW Z e cc nL own h (pc + 3) lv st S) : MW Z e cc nL own h pc lv (.int y :: .int x :: st) S := by
  obtain ⟨p, l, ee, R, s, m, args, below, meth, c, A, ⟨ck, cn⟩, Qf⟩ := Z
  intro g H locs ls hl hP hD hS
  exact lv_icmp_ge g.1 g.2.1 d ht (fun z => kt z g H locs ls hl hP hD hS) (fun z => kf z g H locs ls hl hP hD hS)
theorem m_icmp_gt {Z : Zt} {e : GE} {cc : ByteArray} {nL : Nat} {own : String} {h pc : Nat} {lv : List (Nat × Value)} {st : List Value} {S : St} {x y : Int32} {off : Int} {tgt : Nat} (d : decode cc pc = .ok (.if_icmp .gt off, 3)) (ht : (pc : Int) + off = (tgt : Int)) (kt : y < x → MW Z e cc nL own h tgt lv st S) (kf : ¬ y < x → MW Z e cc nL own h (pc + 3) lv st S) : MW Z e cc nL own h pc lv (.int y :: .int x :: st) S := by
  obtain ⟨p, l, ee, R, s, m, args, below, meth, c, A, ⟨ck, cn⟩, Qf⟩ := Z
  intro g H locs ls hl hP hD hS
  exact lv_icmp_gt g.1 g.2.1 d ht (fun z => kt z g H locs ls hl hP hD hS) (fun z => kf z g H locs ls hl hP hD hS)
theorem m_icmp_le {Z : Zt} {e : GE} {cc : ByteArray} {nL : Nat} {own : String} {h pc : Nat} {lv : List (Nat × Value)} {st : List Value} {S : St} {x y : Int32} {off : Int} {tgt : Nat} (d : decode cc pc = .ok (.if_icmp .le off, 3)) (ht : (pc : Int) + off = (tgt : Int)) (kt : x ≤ y → MW Z e cc nL own h tgt lv st S) (kf : ¬ x ≤ y → MW Z e cc nL own h (pc + 3) lv st S) : MW Z e cc nL own h pc lv (.int y :: .int x :: st) S := by
  obtain ⟨p, l, ee, R, s, m, args, below, meth, c, A, ⟨ck, cn⟩, Qf⟩ := Z
  intro g H locs ls hl hP hD hS
  exact lv_icmp_le g.1 g.2.1 d ht (fun z => kt z g H locs ls hl hP hD hS) (fun z => kf z g H locs ls hl hP hD hS)
theorem m_goto {Z : Zt} {e : GE} {cc : ByteArray} {nL : Nat} {own : String} {h pc : Nat} {lv : List (Nat × Value)} {st : List Value} {S : St} {off : Int} {tgt : Nat} (d : decode cc pc = .ok (.goto off, 3)) (ht : (pc : Int) + off = (tgt : Int)) (k : MW Z e cc nL own h tgt lv st S) : MW Z e cc nL own h pc lv st S := by
  obtain ⟨p, l, ee, R, s, m, args, below, meth, c, A, ⟨ck, cn⟩, Qf⟩ := Z
  intro g H locs ls hl hP hD hS
  exact lv_goto g.1 g.2.1 d ht (k g H locs ls hl hP hD hS)
theorem m_tableIn {Z : Zt} {e : GE} {cc : ByteArray} {nL : Nat} {own : String} {h pc : Nat} {lv : List (Nat × Value)} {st : List Value} {S : St} {dflt lo hi : Int} {offs : Array Int} {len : Nat} {x : Int32} {off : Int} {tgt : Nat} (d : decode cc pc = .ok (.tableswitch dflt lo hi offs, len)) (h1 : ¬ x.toInt < lo) (h2 : ¬ hi < x.toInt) (ho : offs[(x.toInt - lo).toNat]? = some off) (ht : (pc : Int) + off = (tgt : Int)) (k : MW Z e cc nL own h tgt lv st S) : MW Z e cc nL own h pc lv (.int x :: st) S := by
  obtain ⟨p, l, ee, R, s, m, args, below, meth, c, A, ⟨ck, cn⟩, Qf⟩ := Z
  intro g H locs ls hl hP hD hS
  exact lv_tableIn g.1 g.2.1 d h1 h2 ho ht (k g H locs ls hl hP hD hS)
theorem m_tableOut {Z : Zt} {e : GE} {cc : ByteArray} {nL : Nat} {own : String} {h pc : Nat} {lv : List (Nat × Value)} {st : List Value} {S : St} {dflt lo hi : Int} {offs : Array Int} {len : Nat} {x : Int32} {tgt : Nat} (d : decode cc pc = .ok (.tableswitch dflt lo hi offs, len)) (h1 : x.toInt < lo ∨ hi < x.toInt) (ht : (pc : Int) + dflt = (tgt : Int)) (k : MW Z e cc nL own h tgt lv st S) : MW Z e cc nL own h pc lv (.int x :: st) S := by
  obtain ⟨p, l, ee, R, s, m, args, below, meth, c, A, ⟨ck, cn⟩, Qf⟩ := Z
  intro g H locs ls hl hP hD hS
  exact lv_tableOut g.1 g.2.1 d h1 ht (k g H locs ls hl hP hD hS)
theorem m_ldc2 {Z : Zt} {e : GE} {cc : ByteArray} {nL : Nat} {own : String} {h pc : Nat} {lv : List (Nat × Value)} {st : List Value} {S : St} {index : Nat} {v : Int64} (q : .constantLong own index v ∈ wsL_law) (d : decode cc pc = .ok (.ldc2_w index, 3)) (k : MW Z e cc nL own h (pc + 3) lv (.long v :: st) S) : MW Z e cc nL own h pc lv st S := by
  obtain ⟨p, l, ee, R, s, m, args, below, meth, c, A, ⟨ck, cn⟩, Qf⟩ := Z
  intro g H locs ls hl hP hD hS
  exact lv_ldc2 g.1 g.2.1 g.2.2.2.1 (g.2.2.2.2.1 _ q) d (k g H locs ls hl hP hD hS)
theorem m_ldc {Z : Zt} {e : GE} {cc : ByteArray} {nL : Nat} {own : String} {h pc : Nat} {lv : List (Nat × Value)} {st : List Value} {S : St} {index : Nat} {v : Int32} (q : .constant own index v ∈ wsL_law) (d : decode cc pc = .ok (.ldc index, 2)) (k : MW Z e cc nL own h (pc + 2) lv (.int v :: st) S) : MW Z e cc nL own h pc lv st S := by
  obtain ⟨p, l, ee, R, s, m, args, below, meth, c, A, ⟨ck, cn⟩, Qf⟩ := Z
  intro g H locs ls hl hP hD hS
  exact lv_ldc g.1 g.2.1 g.2.2.2.1 (g.2.2.2.2.1 _ q) d (k g H locs ls hl hP hD hS)
theorem m_ldcS {Z : Zt} {e : GE} {cc : ByteArray} {nL : Nat} {own : String} {h pc : Nat} {lv : List (Nat × Value)} {st : List Value} {S : St} {index i : Nat} {tx : String} (ho : own = RX3) (hi : i < 4) (h1 : ixS.getD i 0 = index) (d : decode cc pc = .ok (.ldc index, 2)) (k : MW Z e cc nL own h (pc + 2) lv (.ref (e.2.2.2.1 i) :: st) S) : MW Z e cc nL own h pc lv st S := by
  obtain ⟨p, l, ee, R, s, m, args, below, meth, c, A, ⟨ck, cn⟩, Qf⟩ := Z
  intro g H locs ls hl hP hD hS
  subst ho; subst h1
  exact va_ldcS g.1 g.2.1 g.2.2.2.1 (g.2.2.2.2.2.1.2.2.1 i hi) d (k g H locs ls hl hP hD hS)
theorem m_get {Z : Zt} {e : GE} {cc : ByteArray} {nL : Nat} {own : String} {h pc : Nat} {lv : List (Nat × Value)} {st : List Value} {S : St} {C : String} {T : u_T} {N ci index : Nat} {fs : List Value} {v : Value} (q0 k0 : Nat) (ho : (WW e S)[q0]? = some (e.2.2.1 q0, .inr (ci, fs))) (hc : vwCl[ci]? = some (C, T, N)) (hin : ∀ w ∈ u_ws C T N, w ∈ wsL_law) (hk : k0 < N) (ql : .fieldLink own index (T k0).1 (T k0).2.1 (T k0).2.2.1 ∈ wsL_law) (hv : fs[k0]? = some v) (d : decode cc pc = .ok (.getfield index, 3)) (k : MW Z e cc nL own h (pc + 3) lv (v :: st) S) : MW Z e cc nL own h pc lv (.ref (e.2.2.1 q0) :: st) S := by
  obtain ⟨p, l, ee, R, s, m, args, below, meth, c, A, ⟨ck, cn⟩, Qf⟩ := Z
  intro g H locs ls hl hP hD hS
  exact va_get g.1 g.2.1 g.2.2.2.2.1 hin g.2.2.2.1 g.2.2.2.2.2.1.1 hP q0 ho hc k0 hk (g.2.2.2.2.1 _ ql) (fun _ z => z) hv d (k g H locs ls hl hP hD hS)
theorem m_put {Z : Zt} {e : GE} {cc : ByteArray} {nL : Nat} {own : String} {h pc : Nat} {lv : List (Nat × Value)} {st : List Value} {S : St} {C : String} {T : u_T} {N ci index : Nat} {fs : List Value} {v : Value} {ty : FieldType} {S2 : St} (q0 k0 : Nat) (ty0 : Nat → FieldType) (hty : ∀ k, k < N → parseFieldDescriptor (T k).2.2.1 = some (ty0 k)) (hnm : ∀ a, a < N → ∀ b, b < N → a ≠ b → (T a).2.1 ≠ (T b).2.1) (ho : (WW e S)[q0]? = some (e.2.2.1 q0, .inr (ci, fs))) (hc : vwCl[ci]? = some (C, T, N)) (hin : ∀ w ∈ u_ws C T N, w ∈ wsL_law) (hk : k0 < N) (ql : .fieldLink own index (T k0).1 (T k0).2.1 (T k0).2.2.1 ∈ wsL_law) (hfin : (T k0).2.2.2 = false) (hd : parseFieldDescriptor (T k0).2.2.1 = some ty) (hn : narrow ty v = v) (hf : fits ty v = true) (hlen : k0 < fs.length) (hw : (WW e S).set q0 (e.2.2.1 q0, .inr (ci, fs.set k0 v)) = WW e S2) (d : decode cc pc = .ok (.putfield index, 3)) (k : ∀ S1, S1 = S2 → MW Z e cc nL own h (pc + 3) lv st S1) : MW Z e cc nL own h pc lv (v :: .ref (e.2.2.1 q0) :: st) S := by
  obtain ⟨p, l, ee, R, s, m, args, below, meth, c, A, ⟨ck, cn⟩, Qf⟩ := Z
  intro g H locs ls hl hP hD hS
  exact va_put g.1 g.2.1 g.2.2.2.2.1 hin ty0 hty hnm g.2.2.2.1 g.2.2.2.2.2.1.1 hP hD hS q0 ho hc k0 hk (g.2.2.2.2.1 _ ql) (fun _ z => z) hfin hd hn hf hlen d (fun H1 locs1 hP1 hD1 hS1 => k S2 rfl g H1 locs1 ls hl (hw ▸ hP1) (hw ▸ hD1) hS1)
theorem m_iald {Z : Zt} {e : GE} {cc : ByteArray} {nL : Nat} {own : String} {h pc : Nat} {lv : List (Nat × Value)} {st : List Value} {S : St} {n : Nat} {f : Nat → Int32} {i : Int32} (q0 : Nat) (ho : (WW e S)[q0]? = some (e.2.2.1 q0, .inl (e.2.1 0, n, .inl f))) (hin : vp_in i n) (d : decode cc pc = .ok (.iaload, 1)) (k : MW Z e cc nL own h (pc + 1) lv (.int (f i.toNatClampNeg) :: st) S) : MW Z e cc nL own h pc lv (.int i :: .ref (e.2.2.1 q0) :: st) S := by
  obtain ⟨p, l, ee, R, s, m, args, below, meth, c, A, ⟨ck, cn⟩, Qf⟩ := Z
  intro g H locs ls hl hP hD hS
  exact va_iald g.1 g.2.1 g.2.2.2.2.2.1.1 hP q0 0 ho rfl hin d (k g H locs ls hl hP hD hS)
theorem m_bald {Z : Zt} {e : GE} {cc : ByteArray} {nL : Nat} {own : String} {h pc : Nat} {lv : List (Nat × Value)} {st : List Value} {S : St} {n : Nat} {f : Nat → Int32} {i : Int32} (q0 : Nat) (ho : (WW e S)[q0]? = some (e.2.2.1 q0, .inl (e.2.1 1, n, .inl f))) (hin : vp_in i n) (d : decode cc pc = .ok (.baload, 1)) (k : MW Z e cc nL own h (pc + 1) lv (.int (f i.toNatClampNeg) :: st) S) : MW Z e cc nL own h pc lv (.int i :: .ref (e.2.2.1 q0) :: st) S := by
  obtain ⟨p, l, ee, R, s, m, args, below, meth, c, A, ⟨ck, cn⟩, Qf⟩ := Z
  intro g H locs ls hl hP hD hS
  exact va_bald g.1 g.2.1 g.2.2.2.2.2.1.1 hP q0 1 ho rfl hin d (k g H locs ls hl hP hD hS)
theorem m_zald {Z : Zt} {e : GE} {cc : ByteArray} {nL : Nat} {own : String} {h pc : Nat} {lv : List (Nat × Value)} {st : List Value} {S : St} {n : Nat} {f : Nat → Int32} {i : Int32} (q0 : Nat) (ho : (WW e S)[q0]? = some (e.2.2.1 q0, .inl (e.2.1 2, n, .inl f))) (hin : vp_in i n) (d : decode cc pc = .ok (.baload, 1)) (k : MW Z e cc nL own h (pc + 1) lv (.int (f i.toNatClampNeg) :: st) S) : MW Z e cc nL own h pc lv (.int i :: .ref (e.2.2.1 q0) :: st) S := by
  obtain ⟨p, l, ee, R, s, m, args, below, meth, c, A, ⟨ck, cn⟩, Qf⟩ := Z
  intro g H locs ls hl hP hD hS
  exact va_zald g.1 g.2.1 g.2.2.2.2.2.1.1 hP q0 2 ho rfl hin d (k g H locs ls hl hP hD hS)
theorem m_iast {Z : Zt} {e : GE} {cc : ByteArray} {nL : Nat} {own : String} {h pc : Nat} {lv : List (Nat × Value)} {st : List Value} {S : St} {n : Nat} {f : Nat → Int32} {i x : Int32} (q0 : Nat) (ho : (WW e S)[q0]? = some (e.2.2.1 q0, .inl (e.2.1 0, n, .inl f))) (hw : ∀ f2, (WW e S).set q0 (e.2.2.1 q0, .inl (e.2.1 0, n, .inl f2)) = WW e (setA S q0 f2)) (hin : vp_in i n) (d : decode cc pc = .ok (.iastore, 1)) (k : ∀ S1, S1 = setA S q0 (upd f i.toNatClampNeg x) → MW Z e cc nL own h (pc + 1) lv st S1) : MW Z e cc nL own h pc lv (.int x :: .int i :: .ref (e.2.2.1 q0) :: st) S := by
  obtain ⟨p, l, ee, R, s, m, args, below, meth, c, A, ⟨ck, cn⟩, Qf⟩ := Z
  intro g H locs ls hl hP hD hS
  exact va_iast g.1 g.2.1 g.2.2.2.2.2.1.1 hP hD hS q0 0 ho rfl hin d (fun H1 locs1 hP1 hD1 hS1 => k _ rfl g H1 locs1 ls hl (hw _ ▸ hP1) (hw _ ▸ hD1) hS1)
theorem m_bast {Z : Zt} {e : GE} {cc : ByteArray} {nL : Nat} {own : String} {h pc : Nat} {lv : List (Nat × Value)} {st : List Value} {S : St} {n : Nat} {f : Nat → Int32} {i x : Int32} (q0 : Nat) (ho : (WW e S)[q0]? = some (e.2.2.1 q0, .inl (e.2.1 1, n, .inl f))) (hw : ∀ f2, (WW e S).set q0 (e.2.2.1 q0, .inl (e.2.1 1, n, .inl f2)) = WW e (setA S q0 f2)) (hin : vp_in i n) (d : decode cc pc = .ok (.bastore, 1)) (k : ∀ S1, S1 = setA S q0 (upd f i.toNatClampNeg (vp_nar .byte x)) → MW Z e cc nL own h (pc + 1) lv st S1) : MW Z e cc nL own h pc lv (.int x :: .int i :: .ref (e.2.2.1 q0) :: st) S := by
  obtain ⟨p, l, ee, R, s, m, args, below, meth, c, A, ⟨ck, cn⟩, Qf⟩ := Z
  intro g H locs ls hl hP hD hS
  exact va_bast g.1 g.2.1 g.2.2.2.2.2.1.1 hP hD hS q0 1 ho rfl hin d (fun H1 locs1 hP1 hD1 hS1 => k _ rfl g H1 locs1 ls hl (hw _ ▸ hP1) (hw _ ▸ hD1) hS1)
theorem m_zast {Z : Zt} {e : GE} {cc : ByteArray} {nL : Nat} {own : String} {h pc : Nat} {lv : List (Nat × Value)} {st : List Value} {S : St} {n : Nat} {f : Nat → Int32} {i x : Int32} (q0 : Nat) (ho : (WW e S)[q0]? = some (e.2.2.1 q0, .inl (e.2.1 2, n, .inl f))) (hw : ∀ f2, (WW e S).set q0 (e.2.2.1 q0, .inl (e.2.1 2, n, .inl f2)) = WW e (setA S q0 f2)) (hin : vp_in i n) (d : decode cc pc = .ok (.bastore, 1)) (k : ∀ S1, S1 = setA S q0 (upd f i.toNatClampNeg (vp_nar .boolean x)) → MW Z e cc nL own h (pc + 1) lv st S1) : MW Z e cc nL own h pc lv (.int x :: .int i :: .ref (e.2.2.1 q0) :: st) S := by
  obtain ⟨p, l, ee, R, s, m, args, below, meth, c, A, ⟨ck, cn⟩, Qf⟩ := Z
  intro g H locs ls hl hP hD hS
  exact va_zast g.1 g.2.1 g.2.2.2.2.2.1.1 hP hD hS q0 2 ho rfl hin d (fun H1 locs1 hP1 hD1 hS1 => k _ rfl g H1 locs1 ls hl (hw _ ▸ hP1) (hw _ ▸ hD1) hS1)
theorem m_alen {Z : Zt} {e : GE} {cc : ByteArray} {nL : Nat} {own : String} {h pc : Nat} {lv : List (Nat × Value)} {st : List Value} {S : St} {x : ClassId × vp_A} {v : Int32} {t0 : Nat} {ty : FieldType} (q0 : Nat) (ho : (WW e S)[q0]? = some (e.2.2.1 q0, .inl x)) (ht : (tysG e)[t0]? = some (x.1, ty)) (hv : Int32.ofNat x.2.1 = v) (d : decode cc pc = .ok (.arraylength, 1)) (k : MW Z e cc nL own h (pc + 1) lv (.int v :: st) S) : MW Z e cc nL own h pc lv (.ref (e.2.2.1 q0) :: st) S := by
  obtain ⟨p, l, ee, R, s, m, args, below, meth, c, A, ⟨ck, cn⟩, Qf⟩ := Z
  intro g H locs ls hl hP hD hS
  exact va_alen g.1 g.2.1 g.2.2.2.2.2.1.1 hP q0 t0 ho ht hv d (k g H locs ls hl hP hD hS)
theorem m_aald {Z : Zt} {e : GE} {cc : ByteArray} {nL : Nat} {own : String} {h pc : Nat} {lv : List (Nat × Value)} {st : List Value} {S : St} {n : Nat} {f : Nat → Option Nat} {i : Int32} {a : Nat} (q0 : Nat) (ho : (WW e S)[q0]? = some (e.2.2.1 q0, .inl (e.2.1 3, n, .inr (.inr (.inr (.inr f)))))) (hin : vp_in i n) (hf : f i.toNatClampNeg = some a) (d : decode cc pc = .ok (.aaload, 1)) (k : MW Z e cc nL own h (pc + 1) lv (.ref a :: st) S) : MW Z e cc nL own h pc lv (.int i :: .ref (e.2.2.1 q0) :: st) S := by
  obtain ⟨p, l, ee, R, s, m, args, below, meth, c, A, ⟨ck, cn⟩, Qf⟩ := Z
  intro g H locs ls hl hP hD hS
  have k1 := (k g H locs ls hl hP hD hS)
  refine va_aldq g.1 g.2.1 g.2.2.2.2.2.1.1 hP q0 3 ho rfl hin d ?_
  rw [hf]
  exact k1
theorem m_mmax {Z : Zt} {e : GE} {cc : ByteArray} {nL : Nat} {own : String} {h pc : Nat} {lv : List (Nat × Value)} {st : List Value} {S : St} {x y : Int32} {index : Nat} (q : .methodLink own index Lib.Math.max.name ∈ wsL_law) (q2 : .static Lib.Math.max.name ∈ wsL_law) (q3 : .initialized "java/lang/Math" ∈ wsL_law) (q4 : .code Lib.Math.max.name Lib.Math.max.code 2 (some .int) ∈ wsL_law) (hh : 1 ≤ h) (hc : (st.map fun v => v.category).sum ≤ 8) (d : decode cc pc = .ok (.invokestatic index, 3)) (k : MW Z e cc nL own h (pc + 3) lv (.int (if x < y then y else x) :: st) S) : MW Z e cc nL own h pc lv (.int y :: .int x :: st) S := by
  obtain ⟨p, l, ee, R, s, m, args, below, meth, c, A, ⟨ck, cn⟩, Qf⟩ := Z
  intro g H locs ls hl hP hD hS
  have g8 := g.2.2.2.2.2.2.2.1
  exact va_mmax g.1 g.2.1 (by rw [g.2.2.1]; exact hl.1.symm) g.2.2.2.1 (g.2.2.2.2.1 _ q) (g.2.2.2.2.1 _ q2) (g.2.2.2.2.1 _ q3) (g.2.2.2.2.1 _ q4) (by omega) (by omega) g8.2.2.1 g8.2.2.2 d (k g H locs ls hl hP hD hS)
theorem m_mmin {Z : Zt} {e : GE} {cc : ByteArray} {nL : Nat} {own : String} {h pc : Nat} {lv : List (Nat × Value)} {st : List Value} {S : St} {x y : Int32} {index : Nat} (q : .methodLink own index Lib.Math.min.name ∈ wsL_law) (q2 : .static Lib.Math.min.name ∈ wsL_law) (q3 : .initialized "java/lang/Math" ∈ wsL_law) (q4 : .code Lib.Math.min.name Lib.Math.min.code 2 (some .int) ∈ wsL_law) (hh : 1 ≤ h) (hc : (st.map fun v => v.category).sum ≤ 8) (d : decode cc pc = .ok (.invokestatic index, 3)) (k : MW Z e cc nL own h (pc + 3) lv (.int (if y < x then y else x) :: st) S) : MW Z e cc nL own h pc lv (.int y :: .int x :: st) S := by
  obtain ⟨p, l, ee, R, s, m, args, below, meth, c, A, ⟨ck, cn⟩, Qf⟩ := Z
  intro g H locs ls hl hP hD hS
  have g8 := g.2.2.2.2.2.2.2.1
  exact va_mmin g.1 g.2.1 (by rw [g.2.2.1]; exact hl.1.symm) g.2.2.2.1 (g.2.2.2.2.1 _ q) (g.2.2.2.2.1 _ q2) (g.2.2.2.2.1 _ q3) (g.2.2.2.2.1 _ q4) (by omega) (by omega) g8.2.2.1 g8.2.2.2 d (k g H locs ls hl hP hD hS)
theorem m_copy {Z : Zt} {e : GE} {cc : ByteArray} {nL : Nat} {own : String} {h pc : Nat} {lv : List (Nat × Value)} {st : List Value} {S : St} {n0 n1 : Nat} {f f1 : Nat → Int32} {n : Int32} {index : Nat} {S2 : St} (q0 q1 : Nat) (qa : .methodLink own index arraycopyName ∈ wsL_law) (qb : .native arraycopyName ∈ wsL_law) (qc : .static arraycopyName ∈ wsL_law) (qd : .initialized "java/lang/System" ∈ wsL_law) (ho : (WW e S)[q0]? = some (e.2.2.1 q0, .inl (e.2.1 0, n0, .inl f))) (ho1 : (WW e S)[q1]? = some (e.2.2.1 q1, .inl (e.2.1 0, n1, .inl f1))) (h3 : ¬ n < 0) (h4 : n.toNatClampNeg = n1) (h5 : n1 ≤ n0) (hw : (WW e S).set q1 (e.2.2.1 q1, .inl (e.2.1 0, n1, .inl f)) = WW e S2) (hh : 2 ≤ h) (hc : (st.map fun v => v.category).sum ≤ 8) (d : decode cc pc = .ok (.invokestatic index, 3)) (k : ∀ S1, S1 = S2 → MW Z e cc nL own h (pc + 3) lv st S1) : MW Z e cc nL own h pc lv (.int n :: .int 0 :: .ref (e.2.2.1 q1) :: .int 0 :: .ref (e.2.2.1 q0) :: st) S := by
  obtain ⟨p, l, ee, R, s, m, args, below, meth, c, A, ⟨ck, cn⟩, Qf⟩ := Z
  intro g H locs ls hl hP hD hS
  have g8 := g.2.2.2.2.2.2.2.1
  have hz : (0 : Int32).toNatClampNeg = 0 := by decide
  have e1 : nativeFrameWords "java/lang/System" "arraycopy" 5 + 11 ≤ 40 := by decide
  refine va_copyi (sp := 0) (dp := 0) g.1 g.2.1 (by rw [g.2.2.1]; exact hl.1.symm) g.2.2.2.1 (g.2.2.2.2.1 _ qa) (g.2.2.2.2.1 _ qb) (g.2.2.2.2.1 _ qc) (g.2.2.2.2.1 _ qd) g.2.2.2.2.2.1.1 hP hD hS q0 q1 0 0 ho ho1 rfl rfl (ty := .int) rfl (by decide) (by decide) h3 (by rw [hz, h4]; omega) (by rw [hz, h4]; omega) (fun _ _ => rfl) (by omega) (by omega) d (fun H1 locs1 hP1 hD1 hS1 => ?_)
  rw [hz, h4] at hP1 hD1
  have e2 : ∀ j, j < n1 → va_cpy f f1 0 0 n1 j = f j := fun j hj => by simp [va_cpy, hj]
  have e3 : vp_cell (e.2.1 0) (n1, .inl (va_cpy f f1 0 0 n1)) = vp_cell (e.2.1 0) (n1, .inl f) := cell_cong e2
  exact k S2 rfl g H1 locs1 ls hl (hw ▸ P_cong ho1 e3 hP1) (WW_D S2 hD) hS1
theorem RT.get {Z : Zt} {e : GE} {ret : Option FieldType} {post : Option Value → St → Prop} (h : RT Z e ret post) : RT Z e ret post := h
theorem m_iret {Z : Zt} {e : GE} {cc : ByteArray} {nL : Nat} {own : String} {h pc : Nat} {lv : List (Nat × Value)} {S : St} {v : Int32} {post : Option Value → St → Prop} (hr : RT Z e (some .int) post)  (hp : post (some (.int v)) S) (d : decode cc pc = .ok (.ireturn, 1)) : MW Z e cc nL own h pc lv [.int v] S := by
  obtain ⟨p, l, ee, R, s, m, args, below, meth, c, A, ⟨ck, cn⟩, Qf⟩ := Z
  intro g H locs ls hl hP hD hS
  obtain ⟨r1, r2, rfl, rfl, rfl, rfl⟩ := hr
  exact W.iret g.1 g.2.1 r1 (fun t ht hW => ⟨⟨_, S, rfl, hp, by rw [ht]; exact hP⟩, hS.F ht⟩) hS.2.2 d r2
theorem m_zret {Z : Zt} {e : GE} {cc : ByteArray} {nL : Nat} {own : String} {h pc : Nat} {lv : List (Nat × Value)} {S : St} {v : Int32} {ty : FieldType} {post : Option Value → St → Prop} (hr : RT Z e (some ty) post) (hn : narrow ty (.int v) = .int v) (hp : post (some (.int v)) S) (d : decode cc pc = .ok (.ireturn, 1)) : MW Z e cc nL own h pc lv [.int v] S := by
  obtain ⟨p, l, ee, R, s, m, args, below, meth, c, A, ⟨ck, cn⟩, Qf⟩ := Z
  intro g H locs ls hl hP hD hS
  obtain ⟨r1, r2, rfl, rfl, rfl, rfl⟩ := hr
  exact W.zret g.1 g.2.1 r1 hn (fun t ht hW => ⟨⟨_, S, rfl, hp, by rw [ht]; exact hP⟩, hS.F ht⟩) hS.2.2 d r2
theorem m_vret {Z : Zt} {e : GE} {cc : ByteArray} {nL : Nat} {own : String} {h pc : Nat} {lv : List (Nat × Value)} {S : St}  {post : Option Value → St → Prop} (hr : RT Z e none post)  (hp : post none S) (d : decode cc pc = .ok (.return_, 1)) : MW Z e cc nL own h pc lv [] S := by
  obtain ⟨p, l, ee, R, s, m, args, below, meth, c, A, ⟨ck, cn⟩, Qf⟩ := Z
  intro g H locs ls hl hP hD hS
  obtain ⟨r1, r2, rfl, rfl, rfl, rfl⟩ := hr
  exact W.vret g.1 g.2.1 r1 (fun t ht hW => ⟨⟨_, S, rfl, hp, by rw [ht]; exact hP⟩, hS.F ht⟩) hS.2.2 d r2
theorem m_lret {Z : Zt} {e : GE} {cc : ByteArray} {nL : Nat} {own : String} {h pc : Nat} {lv : List (Nat × Value)} {S : St} {v : Int64} {post : Option Value → St → Prop} (hr : RT Z e (some .long) post)  (hp : post (some (.long v)) S) (d : decode cc pc = .ok (.lreturn, 1)) : MW Z e cc nL own h pc lv [.long v] S := by
  obtain ⟨p, l, ee, R, s, m, args, below, meth, c, A, ⟨ck, cn⟩, Qf⟩ := Z
  intro g H locs ls hl hP hD hS
  obtain ⟨r1, r2, rfl, rfl, rfl, rfl⟩ := hr
  exact W.lret g.1 g.2.1 r1 (fun t ht hW => ⟨⟨_, S, rfl, hp, by rw [ht]; exact hP⟩, hS.F ht⟩) hS.2.2 d r2
