/-! swaps: the fewest exchanges. -/
/-- bars' rust in an order -/
def SolP (n : Nat) (a t : Nat → Nat) (l : List Nat) : Prop := OrdP n l ∧ ∀ k, k < n → a (ali l k) = t k
theorem ali_get {l : List Nat} {k : Nat} (h : k < l.length) : ali l k = l[k] := by
  unfold ali
  rw [List.getD_eq_getElem?_getD, List.getElem?_eq_getElem h]
  rfl
theorem ali_mem {l : List Nat} {k : Nat} (h : k < l.length) : ali l k ∈ l := by
  rw [ali_get h]
  exact List.getElem_mem h
theorem ali_inj {n : Nat} {l : List Nat} (hl : OrdP n l) {i j : Nat} (hi : i < n) (hj : j < n) (h : ali l i = ali l j) : i = j := by
  obtain ⟨h1, h2, h3⟩ := hl
  rw [ali_get (by omega), ali_get (by omega)] at h
  have pw := List.pairwise_iff_getElem.mp h3
  rcases Nat.lt_trichotomy i j with c | c | c
  · exact absurd h (pw i j (by omega) (by omega) c)
  · exact c
  · exact absurd h.symm (pw j i (by omega) (by omega) c)
theorem ali_swl {l : List Nat} {k i : Nat} (h : i < l.length) : ali (swl l k) i = if ali l i = k then ali l k else if ali l i = ali l k then k else ali l i := by
  have e : ali (swl l k) i = (fun x => if x = k then ali l k else if x = ali l k then k else x) (ali l i) := by
    unfold swl
    generalize (fun x => if x = k then ali l k else if x = ali l k then k else x) = g
    rw [ali_get (by rw [List.length_map]; exact h), ali_get h, List.getElem_map]
  exact e
theorem swl_ord {n k : Nat} {l : List Nat} (hl : OrdP n l) (hk : k < n) : OrdP n (swl l k) := by
  obtain ⟨h1, h2, h3⟩ := hl
  have hak : ali l k < n := h2 _ (ali_mem (by omega))
  refine ⟨by unfold swl; rw [List.length_map, h1], fun d hd => ?_, ?_⟩
  · unfold swl at hd
    obtain ⟨x, hx, rfl⟩ := List.mem_map.mp hd
    have := h2 x hx
    split
    · exact hak
    · split
      · exact hk
      · exact this
  · unfold swl
    refine List.Pairwise.map _ ?_ h3
    intro x y hxy q
    apply hxy
    by_cases c1 : x = k
    · rw [if_pos c1] at q
      by_cases c2 : y = k
      · rw [c1, c2]
      · rw [if_neg c2] at q
        by_cases c3 : y = ali l k
        · rw [if_pos c3] at q
          omega
        · rw [if_neg c3] at q
          omega
    · rw [if_neg c1] at q
      by_cases c2 : y = k
      · rw [if_pos c2] at q
        by_cases c3 : x = ali l k
        · rw [if_pos c3] at q
          omega
        · rw [if_neg c3] at q
          omega
      · rw [if_neg c2] at q
        by_cases c3 : x = ali l k
        · rw [if_pos c3] at q
          by_cases c4 : y = ali l k
          · rw [c3, c4]
          · rw [if_neg c4] at q
            omega
        · rw [if_neg c3] at q
          by_cases c4 : y = ali l k
          · rw [if_pos c4] at q
            omega
          · rw [if_neg c4] at q
            exact q
/-- to exchange two bars' rust -/
def exch (a : Nat → Nat) (i j : Nat) : Nat → Nat := fun x => if x = i then a j else if x = j then a i else a x
/-- a right bar that an order moves: an order with fewer exchanges leaves it -/
theorem sol_fix {n : Nat} {a t : Nat → Nat} {l : List Nat} (hn : n ≤ 6) (hs : SolP n a t l) {k : Nat} (hk : k < n) (hr : a k = t k) (hm : ali l k ≠ k) : SolP n a t (swl l k) ∧ dN n (swl l k) + 1 = dN n l := by
  refine ⟨⟨swl_ord hs.1 hk, fun i hi => ?_⟩, swl_d hn hs.1 hk hm⟩
  have hlen := hs.1.1
  rw [ali_swl (by omega)]
  have si := hs.2 i hi
  have sk := hs.2 k hk
  by_cases c1 : ali l i = k
  · rw [if_pos c1, sk, ← hr, ← c1]
    exact si
  · rw [if_neg c1]
    by_cases c2 : ali l i = ali l k
    · rw [if_pos c2]
      have := ali_inj hs.1 hi hk c2
      rw [this]
      exact hr
    · rw [if_neg c2]
      exact si
/-- the first wrong bar gets what it wants by one exchange -/
theorem sol_step {n : Nat} {a t : Nat → Nat} {l : List Nat} (hn : n ≤ 6) (hs : SolP n a t l) {i : Nat} (hi : i < n) (hm : ali l i ≠ i) : SolP n (exch a i (ali l i)) t (swl l i) ∧ dN n (swl l i) + 1 = dN n l := by
  refine ⟨⟨swl_ord hs.1 hi, fun k hk => ?_⟩, swl_d hn hs.1 hi hm⟩
  have hlen := hs.1.1
  rw [ali_swl (by omega)]
  have sk := hs.2 k hk
  unfold exch
  by_cases c1 : ali l k = i
  · rw [if_pos c1, if_neg hm, if_pos rfl, ← c1]
    exact sk
  · rw [if_neg c1]
    by_cases c2 : ali l k = ali l i
    · rw [if_pos c2, if_pos rfl, ← c2]
      exact sk
    · rw [if_neg c2, if_neg c1, if_neg c2]
      exact sk
/-- two bars exchanged in an order -/
def trl (l : List Nat) (i j : Nat) : List Nat := l.map (fun x => if x = i then j else if x = j then i else x)
theorem ali_trl {l : List Nat} {i j k : Nat} (h : k < l.length) : ali (trl l i j) k = if ali l k = i then j else if ali l k = j then i else ali l k := by
  have e : ali (trl l i j) k = (fun x => if x = i then j else if x = j then i else x) (ali l k) := by
    unfold trl
    generalize (fun x => if x = i then j else if x = j then i else x) = g
    rw [ali_get (by rw [List.length_map]; exact h), ali_get h, List.getElem_map]
  exact e
theorem trl_ord {n i j : Nat} {l : List Nat} (hl : OrdP n l) (hi : i < n) (hj : j < n) : OrdP n (trl l i j) := by
  obtain ⟨h1, h2, h3⟩ := hl
  refine ⟨by unfold trl; rw [List.length_map, h1], fun d hd => ?_, ?_⟩
  · unfold trl at hd
    obtain ⟨x, hx, rfl⟩ := List.mem_map.mp hd
    have := h2 x hx
    split
    · exact hj
    · split
      · exact hi
      · exact this
  · unfold trl
    refine List.Pairwise.map _ ?_ h3
    intro x y hxy q
    apply hxy
    by_cases c1 : x = i
    · rw [if_pos c1] at q
      by_cases c2 : y = i
      · rw [c1, c2]
      · rw [if_neg c2] at q
        by_cases c3 : y = j
        · rw [if_pos c3] at q
          omega
        · rw [if_neg c3] at q
          omega
    · rw [if_neg c1] at q
      by_cases c2 : y = i
      · rw [if_pos c2] at q
        by_cases c3 : x = j
        · rw [if_pos c3] at q
          omega
        · rw [if_neg c3] at q
          omega
      · rw [if_neg c2] at q
        by_cases c3 : x = j
        · rw [if_pos c3] at q
          by_cases c4 : y = j
          · rw [c3, c4]
          · rw [if_neg c4] at q
            omega
        · rw [if_neg c3] at q
          by_cases c4 : y = j
          · rw [if_pos c4] at q
            omega
          · rw [if_neg c4] at q
            exact q
theorem trl_trl (l : List Nat) (i j : Nat) : trl (trl l i j) i j = l := by
  unfold trl
  rw [List.map_map]
  have e : ((fun x => if x = i then j else if x = j then i else x) ∘ fun x => if x = i then j else if x = j then i else x) = fun x => x := by
    funext x
    show (if (if x = i then j else if x = j then i else x) = i then j else if (if x = i then j else if x = j then i else x) = j then i else (if x = i then j else if x = j then i else x)) = x
    by_cases c1 : x = i
    · rw [if_pos c1]
      by_cases c2 : j = i
      · rw [if_pos c2, c1, c2]
      · rw [if_neg c2, if_pos rfl, c1]
    · rw [if_neg c1]
      by_cases c2 : x = j
      · rw [if_pos c2, if_pos rfl, c2]
      · rw [if_neg c2, if_neg c1, if_neg c2]
  rw [e]
  exact List.map_id l
/-- and back -/
theorem sol_back {n : Nat} {a t : Nat → Nat} {l : List Nat} (hn : n ≤ 6) {i j : Nat} (hi : i < n) (hj : j < n) (hij : i ≠ j) (hs : SolP n (exch a i j) t l) (hf : ali l i = i) : ∃ l2, SolP n a t l2 ∧ dN n l2 = dN n l + 1 := by
  have hlen := hs.1.1
  have ho := trl_ord hs.1 hi hj
  have e1 : ali (trl l i j) i = j := by
    rw [ali_trl (by omega), if_pos hf]
  have e2 : swl (trl l i j) i = l := by
    have : swl (trl l i j) i = trl (trl l i j) i (ali (trl l i j) i) := rfl
    rw [this, e1, trl_trl]
  refine ⟨trl l i j, ⟨ho, fun k hk => ?_⟩, ?_⟩
  · rw [ali_trl (by omega)]
    have sk := hs.2 k hk
    unfold exch at sk
    by_cases c1 : ali l k = i
    · rw [if_pos c1] at sk ⊢
      exact sk
    · rw [if_neg c1] at sk ⊢
      by_cases c2 : ali l k = j
      · rw [if_pos c2] at sk ⊢
        exact sk
      · rw [if_neg c2] at sk ⊢
        exact sk
  · have := swl_d hn ho hi (by rw [e1]; exact fun q => hij q.symm)
    rw [e2] at this
    exact this.symm
