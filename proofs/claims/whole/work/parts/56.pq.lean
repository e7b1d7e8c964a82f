/-! swaps: orders of up to six bars. -/
def ali (l : List Nat) (k : Nat) : Nat := l.getD k 0
def markP (l : List Nat) : Nat → Nat → Nat → Nat
  | 0, done, _ => done
  | f + 1, done, q => if done.testBit q = true then done else markP l f (done ||| 2 ^ q) (ali l q)
/-- after k bars: which were gone through, how many rounds -/
def rndP (l : List Nat) : Nat → Nat × Nat
  | 0 => (0, 0)
  | k + 1 => (markP l 7 (rndP l k).1 k, (rndP l k).2 + if (rndP l k).1.testBit k = true then 0 else 1)
def dN (n : Nat) (l : List Nat) : Nat := n - (rndP l n).2
/-- an order with k right: k and what stands there exchanged -/
def swl (l : List Nat) (k : Nat) : List Nat := l.map (fun x => if x = k then ali l k else if x = ali l k then k else x)
def allN (f : Nat → Bool) : Nat → Bool
  | 0 => true
  | n + 1 => allN f n && f n
theorem allN_t {f : Nat → Bool} : ∀ {n : Nat}, allN f n = true → ∀ k, k < n → f k = true
  | 0, _, k, h => absurd h (Nat.not_lt_zero k)
  | n + 1, h, k, hk => by
    rw [allN, Bool.and_eq_true] at h
    by_cases c : k = n
    · rw [c]
      exact h.2
    · exact allN_t h.1 k (by omega)
/-- a test of all rows of r more different numbers below n, ahead of a row -/
def allR (n : Nat) (f : List Nat → Bool) : Nat → List Nat → Bool
  | 0, l => f l
  | r + 1, l => allN (fun d => if l.contains d then true else allR n f r (d :: l)) n
theorem allR_t {n : Nat} {f : List Nat → Bool} : ∀ (m l : List Nat), allR n f m.length l = true → (∀ d, d ∈ m → d < n ∧ d ∉ l) → m.Nodup → f (m.reverse ++ l) = true
  | [], l, h, _, _ => h
  | d :: m, l, h, hm, hn => by
    have hd := hm d List.mem_cons_self
    have hn2 := List.nodup_cons.mp hn
    have h1 : (if l.contains d then true else allR n f m.length (d :: l)) = true := allN_t h d hd.1
    have c : ¬ l.contains d = true := fun q => hd.2 (List.contains_iff_mem.mp q)
    rw [if_neg c] at h1
    have h2 := allR_t m (d :: l) h1 (fun x hx => ⟨(hm x (List.mem_cons_of_mem _ hx)).1, fun q => by
      rcases List.mem_cons.mp q with z | z
      · exact hn2.1 (z ▸ hx)
      · exact (hm x (List.mem_cons_of_mem _ hx)).2 z⟩) hn2.2
    rw [List.reverse_cons, List.append_assoc]
    exact h2
def chkP (n : Nat) : Bool := allR n (fun l => allN (fun k => if ali l k = k then true else decide (dN n (swl l k) + 1 = dN n l)) n) n []
theorem chk_all : ∀ n, n ≤ 6 → chkP n = true := by decide +kernel
/-- an order of n bars -/
def OrdP (n : Nat) (l : List Nat) : Prop := l.length = n ∧ (∀ d, d ∈ l → d < n) ∧ l.Nodup
theorem swl_d {n k : Nat} {l : List Nat} (hn : n ≤ 6) (hl : OrdP n l) (hk : k < n) (h : ali l k ≠ k) : dN n (swl l k) + 1 = dN n l := by
  obtain ⟨h1, h2, h3⟩ := hl
  have c := chk_all n hn
  unfold chkP at c
  have e : l.reverse.length = n := by rw [List.length_reverse, h1]
  have c2 := allR_t (n := n) (f := fun l => allN (fun k => if ali l k = k then true else decide (dN n (swl l k) + 1 = dN n l)) n) l.reverse [] (by rw [e]; exact c) (fun d hd => ⟨h2 d (List.mem_reverse.mp hd), by simp⟩) (List.pairwise_reverse.mpr (List.Pairwise.imp (fun h q => h q.symm) h3))
  rw [List.reverse_reverse, List.append_nil] at c2
  have c3 := allN_t c2 k hk
  rw [if_neg h] at c3
  exact of_decide_eq_true c3
