/-! swaps: the class's search finds the fewest. -/
def wrg (n : Nat) (a t : Nat → Nat) : Nat → Nat → Nat
  | 0, k => k
  | f + 1, k => if a k = t k then wrg n a t f (k + 1) else k
theorem wrg_ok {n : Nat} {a t : Nat → Nat} : ∀ (f k : Nat), k + f = n → k ≤ wrg n a t f k ∧ wrg n a t f k ≤ n ∧ (∀ x, k ≤ x → x < wrg n a t f k → a x = t x) ∧ (wrg n a t f k < n → a (wrg n a t f k) ≠ t (wrg n a t f k))
  | 0, k, h => by
    rw [wrg]
    exact ⟨Nat.le_refl k, by omega, fun x h1 h2 => absurd h2 (by omega), fun q => absurd q (by omega)⟩
  | f + 1, k, h => by
    rw [wrg]
    by_cases c : a k = t k
    · rw [if_pos c]
      obtain ⟨h1, h2, h3, h4⟩ := wrg_ok (a := a) (t := t) f (k + 1) (by omega : k + 1 + f = n)
      refine ⟨by omega, h2, fun x x1 x2 => ?_, h4⟩
      by_cases d : x = k
      · rw [d]
        exact c
      · exact h3 x (by omega) x2
    · rw [if_neg c]
      exact ⟨Nat.le_refl k, by omega, fun x h1 h2 => absurd h2 (by omega), fun _ => c⟩
def bst (g : Nat → Nat) (ok : Nat → Bool) : Nat → Nat → Nat → Nat
  | 0, _, v => v
  | r + 1, o, v => bst g ok r (o + 1) (if ok o = true then (if 1 + g o < v then 1 + g o else v) else v)
theorem bst_ok {g : Nat → Nat} {ok : Nat → Bool} : ∀ (r o v : Nat), bst g ok r o v ≤ v ∧ (bst g ok r o v = v ∨ ∃ x, o ≤ x ∧ x < o + r ∧ ok x = true ∧ bst g ok r o v = 1 + g x) ∧ ∀ x, o ≤ x → x < o + r → ok x = true → bst g ok r o v ≤ 1 + g x
  | 0, o, v => ⟨Nat.le_refl v, Or.inl rfl, fun x h1 h2 => absurd h2 (by omega)⟩
  | r + 1, o, v => by
    rw [bst]
    obtain ⟨h1, h2, h3⟩ := bst_ok (g := g) (ok := ok) r (o + 1) (if ok o = true then (if 1 + g o < v then 1 + g o else v) else v)
    generalize hw : (if ok o = true then (if 1 + g o < v then 1 + g o else v) else v) = w at *
    have hwv : w ≤ v ∧ (w = v ∨ (ok o = true ∧ w = 1 + g o)) ∧ (ok o = true → w ≤ 1 + g o) := by
      rw [← hw]
      by_cases c : ok o = true
      · rw [if_pos c]
        by_cases d : 1 + g o < v
        · rw [if_pos d]
          exact ⟨by omega, Or.inr ⟨c, rfl⟩, fun _ => Nat.le_refl _⟩
        · rw [if_neg d]
          exact ⟨Nat.le_refl _, Or.inl rfl, fun _ => by omega⟩
      · rw [if_neg c]
        exact ⟨Nat.le_refl _, Or.inl rfl, fun q => absurd q c⟩
    refine ⟨by omega, ?_, fun x x1 x2 x3 => ?_⟩
    · rcases h2 with h2 | ⟨x, x1, x2, x3, x4⟩
      · rcases hwv.2.1 with e | ⟨e1, e2⟩
        · exact Or.inl (h2.trans e)
        · exact Or.inr ⟨o, Nat.le_refl o, by omega, e1, h2.trans e2⟩
      · exact Or.inr ⟨x, by omega, by omega, x3, x4⟩
    · by_cases c : x = o
      · rw [c] at x3 ⊢
        have := hwv.2.2 x3
        omega
      · exact h3 x (by omega) (by omega) x3
def okO (a t : Nat → Nat) (i o : Nat) : Bool := decide (a o = t i) && decide (a o ≠ t o)
def Fx (n : Nat) (t : Nat → Nat) : Nat → (Nat → Nat) → Nat → Nat
  | 0, _, _ => 0
  | d + 1, a, fr => if wrg n a t (n - fr) fr < n then bst (fun o => Fx n t d (exch a (wrg n a t (n - fr) fr) o) (wrg n a t (n - fr) fr + 1)) (okO a t (wrg n a t (n - fr) fr)) (n - (wrg n a t (n - fr) fr + 1)) (wrg n a t (n - fr) fr + 1) 100 else 0
theorem id_ord : ∀ n, n ≤ 6 → dN n (List.range n) = 0 ∧ (List.range n).length = n ∧ (List.range n).Nodup ∧ ∀ k, k < n → ali (List.range n) k = k := by decide +kernel
theorem Fx_min {n : Nat} {t : Nat → Nat} (hn : n ≤ 6) : ∀ (d : Nat) (a : Nat → Nat) (fr : Nat), n - fr < d → fr ≤ n → (∀ k, k < fr → a k = t k) → Fx n t d a fr ≤ 100 ∧ (∀ l, SolP n a t l → Fx n t d a fr ≤ dN n l) ∧ (Fx n t d a fr < 100 → ∃ l, SolP n a t l ∧ dN n l = Fx n t d a fr)
  | 0, a, fr, hd, hf, hr => absurd hd (Nat.not_lt_zero _)
  | d + 1, a, fr, hd, hf, hr => by
    obtain ⟨w1, w2, w3, w4⟩ := wrg_ok (a := a) (t := t) (n - fr) fr (show fr + (n - fr) = n by omega)
    rw [Fx]
    generalize wrg n a t (n - fr) fr = i at *
    have right : ∀ k, k < i → a k = t k := fun k hk => by
      by_cases c : k < fr
      · exact hr k c
      · exact w3 k (by omega) hk
    by_cases c : i < n
    · rw [if_pos c]
      have wrong := w4 c
      have IH : ∀ o, okO a t i o = true → i + 1 ≤ o → o < n → _ := fun o ho h1 h2 => Fx_min (t := t) hn d (exch a i o) (i + 1) (by omega) (by omega) (fun k hk => by
        unfold okO at ho
        simp only [Bool.and_eq_true, decide_eq_true_eq] at ho
        unfold exch
        by_cases e : k = i
        · rw [if_pos e, e]
          exact ho.1
        · rw [if_neg e, if_neg (by omega)]
          exact right k (by omega))
      obtain ⟨b1, b2, b3⟩ := bst_ok (g := fun o => Fx n t d (exch a i o) (i + 1)) (ok := okO a t i) (n - (i + 1)) (i + 1) 100
      generalize bst (fun o => Fx n t d (exch a i o) (i + 1)) (okO a t i) (n - (i + 1)) (i + 1) 100 = v at *
      have lower : ∀ (m : Nat) (l : List Nat), dN n l ≤ m → SolP n a t l → v ≤ dN n l := by
        intro m
        induction m with
        | zero =>
          intro l hm hs
          by_cases z : ali l i = i
          · exact absurd (by have := hs.2 i c; rw [z] at this; exact this) wrong
          · have := (sol_step hn hs c z).2
            omega
        | succ m ihm =>
          intro l hm hs
          by_cases z : ∃ k, k < n ∧ a k = t k ∧ ali l k ≠ k
          · obtain ⟨k, k1, k2, k3⟩ := z
            obtain ⟨s1, s2⟩ := sol_fix hn hs k1 k2 k3
            have := ihm (swl l k) (by omega) s1
            omega
          · have fixed : ∀ k, k < n → a k = t k → ali l k = k := fun k k1 k2 => by
              by_cases y : ali l k = k
              · exact y
              · exact absurd ⟨k, k1, k2, y⟩ z
            have hj : ali l i < n := hs.1.2.1 _ (ali_mem (by have := hs.1.1; omega))
            have aj := hs.2 i c
            have ji : ali l i ≠ i := fun q => by
              rw [q] at aj
              exact wrong aj
            have jw : a (ali l i) ≠ t (ali l i) := fun q => by
              have := fixed _ hj q
              exact ji (ali_inj hs.1 hj c this)
            have jgt : i < ali l i := by
              by_cases y : ali l i < i
              · exact absurd (right _ y) jw
              · omega
            have hok : okO a t i (ali l i) = true := by
              unfold okO
              simp only [Bool.and_eq_true, decide_eq_true_eq]
              exact ⟨aj, jw⟩
            obtain ⟨s1, s2⟩ := sol_step hn hs c ji
            have h1 := b3 (ali l i) (by omega) (by omega) hok
            have h2 := (IH (ali l i) hok (by omega) hj).2.1 _ s1
            have h1' : v ≤ 1 + Fx n t d (exch a i (ali l i)) (i + 1) := h1
            omega
      refine ⟨b1, fun l hs => lower (dN n l) l (Nat.le_refl _) hs, fun hv => ?_⟩
      rcases b2 with e | ⟨x, x1, x2, x3, x4⟩
      · omega
      · have x4' : v = 1 + Fx n t d (exch a i x) (i + 1) := x4
        obtain ⟨i1, i2, i3⟩ := IH x x3 (by omega) (by omega)
        obtain ⟨l, s, e⟩ := i3 (by omega)
        have hxi : exch a i x i = t i := by
          unfold okO at x3
          simp only [Bool.and_eq_true, decide_eq_true_eq] at x3
          unfold exch
          rw [if_pos rfl]
          exact x3.1
        have hf : ali l i = i := by
          by_cases y : ali l i = i
          · exact y
          · obtain ⟨s1, s2⟩ := sol_fix hn s c hxi y
            have := i2 _ s1
            omega
        obtain ⟨l2, s3, e2⟩ := sol_back hn c (show x < n by omega) (by omega) s hf
        exact ⟨l2, s3, by omega⟩
    · rw [if_neg c]
      obtain ⟨r1, r2, r3, r4⟩ := id_ord n hn
      refine ⟨by omega, fun l _ => Nat.zero_le _, fun _ => ⟨List.range n, ⟨⟨r2, fun x hx => List.mem_range.mp hx, r3⟩, fun k hk => ?_⟩, r1⟩⟩
      rw [r4 k hk]
      exact right k (by omega)
