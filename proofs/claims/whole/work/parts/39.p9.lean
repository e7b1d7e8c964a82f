/-! The pure parser, and the class's reader against it. -/
theorem tok_dig {u : Nat → Nat} {n p : Nat} (h : (tok u n p).2.1 = 2) : ∀ k, (tok u n p).1 ≤ k → k < (tok u n p).2.2 → 48 ≤ u k ∧ u k ≤ 57 := by
  unfold tok at h ⊢
  by_cases c1 : row u n 32 32 p < n
  · rw [if_pos c1] at h ⊢
    by_cases c2 : row u n 32 32 p < row u n 97 122 (row u n 32 32 p)
    · rw [if_pos c2] at h
      exact absurd (show (1 : Nat) = 2 from h) (by decide)
    · rw [if_neg c2] at h ⊢
      by_cases c3 : row u n 32 32 p < row u n 48 57 (row u n 32 32 p)
      · rw [if_pos c3] at h ⊢
        intro k h1 h2
        exact rowF_in u n 48 57 _ _ k h1 h2
      · rw [if_neg c3] at h
        have h' : (if u (row u n 32 32 p) = 59 then 3 else 4) = 2 := h
        split at h' <;> omega
  · rw [if_neg c1] at h
    exact absurd (show (0 : Nat) = 2 from h) (by decide)
theorem tok_let {u : Nat → Nat} {n p : Nat} (h : (tok u n p).2.1 = 1) : ∀ k, (tok u n p).1 ≤ k → k < (tok u n p).2.2 → 97 ≤ u k ∧ u k ≤ 122 := by
  unfold tok at h ⊢
  by_cases c1 : row u n 32 32 p < n
  · rw [if_pos c1] at h ⊢
    by_cases c2 : row u n 32 32 p < row u n 97 122 (row u n 32 32 p)
    · rw [if_pos c2] at h ⊢
      intro k h1 h2
      exact rowF_in u n 97 122 _ _ k h1 h2
    · rw [if_neg c2] at h
      by_cases c3 : row u n 32 32 p < row u n 48 57 (row u n 32 32 p)
      · rw [if_pos c3] at h
        exact absurd (show (2 : Nat) = 1 from h) (by decide)
      · rw [if_neg c3] at h
        have h' : (if u (row u n 32 32 p) = 59 then 3 else 4) = 1 := h
        split at h' <;> omega
  · rw [if_neg c1] at h
    exact absurd (show (0 : Nat) = 1 from h) (by decide)
theorem tok_kind (u : Nat → Nat) (n p : Nat) : (tok u n p).2.1 ≤ 4 := by
  unfold tok
  split
  · split
    · show (1 : Nat) ≤ 4
      omega
    · split
      · show (2 : Nat) ≤ 4
        omega
      · show (if u (row u n 32 32 p) = 59 then 3 else 4) ≤ 4
        split <;> omega
  · show (0 : Nat) ≤ 4
    omega
theorem tok_n (u : Nat → Nat) (n : Nat) : (tok u n n).2.1 = 0 := by
  have h : row u n 32 32 n = n := by
    have h1 := rowF_ge u n 32 32 (n - n) n
    have h2 := rowF_le u n 32 32 (n - n) n (Nat.le_refl n)
    exact Nat.le_antisymm h2 h1
  unfold tok
  rw [h, if_neg (by omega)]
def figN (u : Nat → Nat) (t : Nat × Nat × Nat) (lo hi1 : Nat) : Nat := if t.2.1 = 2 ∧ t.2.2 = t.1 + 1 ∧ lo ≤ u t.1 - 48 ∧ u t.1 - 48 < hi1 then (u t.1 - 48) + 1 else 0
def wd : Nat → List Nat
  | 0 => [98, 97, 114]
  | 1 => [112, 101, 114, 115, 111, 110]
  | 2 => [114, 97, 105, 110]
  | _ => [112, 97, 105, 110, 116]
abbrev isW (u : Nat → Nat) (t : Nat × Nat × Nat) (i : Nat) : Prop := t.2.1 = 1 ∧ t.2.2 - t.1 = (wd i).length ∧ ∀ k, k < (wd i).length → u (t.1 + k) = (wd i).getD k 0
abbrev PR : Type := Nat ⊕ ((Nat → Nat) × Nat)
def stopP (u : Nat → Nat) (n p : Nat) (T : Nat → Nat) : PR := if (tok u n p).2.1 = 3 then .inr (T, (tok u n p).2.2) else .inl (tok u n p).1
def addbar (T : Nat → Nat) (v : Nat) : Nat → Nat := fun j => if j = 0 then T 0 + 1 else if j = 4 + T 0 then v else T j
def addperson (T : Nat → Nat) (v : Nat) : Nat → Nat := fun j => if j = 1 then T 1 + 1 else if j = 10 + T 1 then v else T j
def raining (T : Nat → Nat) (y v : Nat) : Nat → Nat := fun j => if j = 13 + y then v else T j
def addpaint (T : Nat → Nat) (b y v : Nat) : Nat → Nat := fun j => if j = 2 then T 2 + 1 else if j = 39 + T 2 then v else if j = 31 + T 2 then y else if j = 23 + T 2 then b else T j
def bump (T : Nat → Nat) : Nat → Nat := fun j => if j = 3 then T 3 + 1 else T j
def barP (u : Nat → Nat) (n : Nat) (T : Nat → Nat) (t : Nat × Nat × Nat) : PR := if T 0 = 6 then .inl t.1 else if figN u (tok u n t.2.2) 1 4 = 0 then .inl (tok u n t.2.2).1 else stopP u n (tok u n t.2.2).2.2 (addbar T (figN u (tok u n t.2.2) 1 4 - 1))
def personP (u : Nat → Nat) (n : Nat) (T : Nat → Nat) (t : Nat × Nat × Nat) : PR := if T 1 = 3 then .inl t.1 else if figN u (tok u n t.2.2) 1 10 = 0 then .inl (tok u n t.2.2).1 else stopP u n (tok u n t.2.2).2.2 (addperson T (figN u (tok u n t.2.2) 1 10 - 1))
def rainQ (u : Nat → Nat) (n : Nat) (T : Nat → Nat) (y : Nat) (t : Nat × Nat × Nat) : PR := if figN u t 0 4 = 0 then .inl t.1 else stopP u n t.2.2 (raining T y (figN u t 0 4 - 1))
def rainP (u : Nat → Nat) (n : Nat) (T : Nat → Nat) (t : Nat × Nat × Nat) : PR := if figN u (tok u n t.2.2) 0 10 = 0 then .inl (tok u n t.2.2).1 else rainQ u n T (figN u (tok u n t.2.2) 0 10 - 1) (tok u n (tok u n t.2.2).2.2)
def paintR (u : Nat → Nat) (n : Nat) (T : Nat → Nat) (b y : Nat) (t : Nat × Nat × Nat) : PR := if figN u t 1 6 = 0 then .inl t.1 else stopP u n t.2.2 (addpaint T b y (figN u t 1 6 - 1))
def paintQ (u : Nat → Nat) (n : Nat) (T : Nat → Nat) (b : Nat) (t : Nat × Nat × Nat) : PR := if figN u t 0 10 = 0 then .inl t.1 else paintR u n T b (figN u t 0 10 - 1) (tok u n t.2.2)
def paintP (u : Nat → Nat) (n : Nat) (T : Nat → Nat) (t : Nat × Nat × Nat) : PR := if T 2 = 8 then .inl t.1 else if figN u (tok u n t.2.2) 0 (T 0) = 0 then .inl (tok u n t.2.2).1 else paintQ u n T (figN u (tok u n t.2.2) 0 (T 0) - 1) (tok u n (tok u n t.2.2).2.2)
def itemP (u : Nat → Nat) (n : Nat) (T : Nat → Nat) (t : Nat × Nat × Nat) : PR := if isW u t 0 then barP u n T t else if isW u t 1 then personP u n T t else if isW u t 2 then rainP u n T t else if isW u t 3 then paintP u n T t else .inl t.1
def parse (u : Nat → Nat) (n : Nat) : Nat → (Nat → Nat) → (Nat × Nat × Nat) → Nat ⊕ (Nat → Nat)
  | 0, T, _ => .inr T
  | f + 1, T, t => if t.2.1 = 0 then .inr T else match itemP u n T t with
    | .inl x => .inl x
    | .inr (T', p) => parse u n f (bump T') (tok u n p)
theorem figN_lt {u : Nat → Nat} {t : Nat × Nat × Nat} {lo hi1 : Nat} (h : figN u t lo hi1 ≠ 0) : lo ≤ figN u t lo hi1 - 1 ∧ figN u t lo hi1 - 1 < hi1 := by
  unfold figN at h ⊢
  by_cases c : t.2.1 = 2 ∧ t.2.2 = t.1 + 1 ∧ lo ≤ u t.1 - 48 ∧ u t.1 - 48 < hi1
  · rw [if_pos c]
    exact ⟨c.2.2.1, c.2.2.2⟩
  · rw [if_neg c] at h
    exact absurd rfl h
theorem stopP_inr {u : Nat → Nat} {n q p : Nat} {T T' : Nat → Nat} (hq : q ≤ n) (h : stopP u n q T = .inr (T', p)) : T' = T ∧ q < p ∧ p ≤ n := by
  have e := tok_ends u n q hq
  unfold stopP at h
  by_cases c : (tok u n q).2.1 = 3
  · rw [if_pos c] at h
    have h2 := Sum.inr.inj h
    have h3 := (Prod.mk.inj h2)
    refine ⟨h3.1.symm, ?_, ?_⟩
    · have := e.2.2.2 (by omega)
      rw [← h3.2]
      omega
    · rw [← h3.2]
      exact e.2.2.1
  · rw [if_neg c] at h
    cases h
theorem itemP_inr {u : Nat → Nat} {n p : Nat} {T T' : Nat → Nat} {t : Nat × Nat × Nat} (ht : t.2.2 ≤ n) (h : itemP u n T t = .inr (T', p)) : t.2.2 < p ∧ p ≤ n ∧ T' 3 = T 3 := by
  have e1 := tok_ends u n t.2.2 ht
  have e2 := tok_ends u n (tok u n t.2.2).2.2 e1.2.2.1
  have e3 := tok_ends u n (tok u n (tok u n t.2.2).2.2).2.2 e2.2.2.1
  unfold itemP at h
  split at h
  · unfold barP at h
    split at h
    · cases h
    · split at h
      · cases h
      · obtain ⟨a, b, c⟩ := stopP_inr e1.2.2.1 h
        subst a
        refine ⟨by omega, c, ?_⟩
        unfold addbar
        rw [if_neg (by omega), if_neg (by omega)]
  · split at h
    · unfold personP at h
      split at h
      · cases h
      · split at h
        · cases h
        · obtain ⟨a, b, c⟩ := stopP_inr e1.2.2.1 h
          subst a
          refine ⟨by omega, c, ?_⟩
          unfold addperson
          rw [if_neg (by omega), if_neg (by omega)]
    · split at h
      · unfold rainP at h
        split at h
        · cases h
        · unfold rainQ at h
          split at h
          · cases h
          · obtain ⟨a, b, c⟩ := stopP_inr e2.2.2.1 h
            subst a
            refine ⟨by omega, c, ?_⟩
            unfold raining
            rw [if_neg (by omega)]
      · split at h
        · unfold paintP at h
          split at h
          · cases h
          · split at h
            · cases h
            · unfold paintQ at h
              split at h
              · cases h
              · unfold paintR at h
                split at h
                · cases h
                · obtain ⟨a, b, c⟩ := stopP_inr e3.2.2.1 h
                  subst a
                  refine ⟨by omega, c, ?_⟩
                  unfold addpaint
                  rw [if_neg (by omega), if_neg (by omega), if_neg (by omega), if_neg (by omega)]
        · cases h
/-- what the class has told so far -/
def RDc (S : St) (T : Nat → Nat) : Prop := RAILv (S.1 500 0) (S.1 501 0) (S.1 502 0) (S.1 5) (S.1 6) (S.1 7) (S.1 8) (S.1 9) (S.1 10) (fun j => nI (T j)) T
theorem RDc.fr {L : List Nat} {S S2 : St} {T : Nat → Nat} (h : RDc S T) (hF : FR L S S2) (hL : ∀ c, c ∈ [500, 501, 502, 5, 6, 7, 8, 9, 10] → c ∉ L := by decide) : RDc S2 T := by
  unfold RDc at h ⊢
  rw [hF.1 500 (hL _ (by decide)), hF.1 501 (hL _ (by decide)), hF.1 502 (hL _ (by decide)), hF.1 5 (hL _ (by decide)), hF.1 6 (hL _ (by decide)), hF.1 7 (hL _ (by decide)), hF.1 8 (hL _ (by decide)), hF.1 9 (hL _ (by decide)), hF.1 10 (hL _ (by decide))]
  exact h
def RLst : List Nat := [202, 203, 204, 205, 500, 501, 502, 5, 6, 7, 8, 9, 10]
def RL4 : List Nat := [202, 203, 204, 205]
theorem RL4_sub : ∀ c, c ∈ RL4 → c ∈ RLst := by decide
theorem take_ok {S : St} {n p : Nat} {u : Nat → Nat} (hX : TX S n u) (hp : p ≤ n) (hC : CLS u S (tok u n p)) {x y : Int32} (lo hi1 : Nat) (hh : hi1 ≤ 10) {Q : Int32 → St → Prop}
    (h0 : figN u (tok u n p) lo hi1 = 0 → Q (-1) S) (h1 : figN u (tok u n p) lo hi1 ≠ 0 → ∀ S2, CLS u S2 (tok u n (tok u n p).2.2) → FR RL4 S S2 → Q (nI (figN u (tok u n p) lo hi1 - 1)) S2) (hx : x = nI lo := by rfl) (hy : y = nI hi1 - 1 := by decide) (hl : lo < 2 ^ 31 := by omega) : w_X3_take S x y Q := by
  have e := tok_ends u n p hp
  have hk := tok_kind u n p
  have hdig := @tok_dig u n p
  obtain ⟨c1, c2, c3, c4⟩ := hC
  unfold w_X3_take
  generalize tok u n p = t at *
  by_cases k2 : t.2.1 = 2
  · rw [if_pos k2] at c1
    have hst : t.1 < t.2.2 := e.2.2.2 (by omega)
    have hd1 := hdig k2 t.1 (Nat.le_refl _) hst
    by_cases n0 : numI u t.1 t.2.2 = 0
    · rw [if_pos n0] at c1
      have hf : figN u t lo hi1 = 0 := by
        unfold figN
        rw [if_neg]
        intro q
        unfold numI at n0
        rw [if_neg (by omega)] at n0
        omega
      exact pk_eqN 4 2 (fun _ => h0 hf) (fun z => absurd z (by omega)) c1 rfl
    · rw [if_neg n0] at c1
      refine pk_eqN 2 2 (fun z => absurd rfl z) (fun _ => ?_) c1 rfl
      rw [c4 k2 n0]
      by_cases c : lo ≤ numI u t.1 t.2.2 - 1 ∧ numI u t.1 t.2.2 - 1 < hi1
      · have hone : t.2.2 = t.1 + 1 := by
          by_cases z : t.2.2 = t.1 + 1
          · exact z
          · exfalso
            have hd2 := hdig k2 (t.1 + 1) (by omega) (by omega)
            unfold numI at c n0
            by_cases z2 : (u t.1 = 48 ∧ 1 < t.2.2 - t.1) ∨ 2 < t.2.2 - t.1
            · rw [if_pos z2] at n0
              exact n0 rfl
            · rw [if_neg z2, if_neg (by omega)] at c
              omega
        have hnum : numI u t.1 t.2.2 = (u t.1 - 48) + 1 := by
          unfold numI
          rw [if_neg (by omega), if_pos (by omega)]
        have hf : figN u t lo hi1 = (u t.1 - 48) + 1 := by
          unfold figN
          rw [if_pos ⟨k2, hone, by omega, by omega⟩]
        refine within_in lo (hi1 - 1) (numI u t.1 t.2.2 - 1) c.1 (by omega) (nb_t (by decide) ?_) rfl hx (by rw [hy, nI_m1 _ (by omega)])
        rintro _ rfl
        have ee : numI u t.1 t.2.2 - 1 = figN u t lo hi1 - 1 := by rw [hnum, hf]
        rw [ee]
        exact next_ok hX e.2.2.1 (c3 (by omega)) (h1 (by omega))
      · have hf : figN u t lo hi1 = 0 := by
          unfold figN
          rw [if_neg]
          intro q
          apply c
          have hnum : numI u t.1 t.2.2 = (u t.1 - 48) + 1 := by
            unfold numI
            rw [if_neg (by omega), if_pos (by omega)]
          omega
        have hb : numI u t.1 t.2.2 - 1 < 2 ^ 31 := by
          unfold numI
          split
          · omega
          · split
            · omega
            · have hd2 := hdig k2 (t.1 + 1) (by omega) (by omega)
              omega
        refine within_out ?_ (nb_f rfl (h0 hf))
        subst hx
        subst hy
        by_cases z : numI u t.1 t.2.2 - 1 < lo
        · left
          rw [Int32.lt_iff_toInt_lt, nI_toInt hb, nI_toInt hl]
          omega
        · right
          by_cases z2 : hi1 = 0
          · subst z2
            rw [Int32.lt_iff_toInt_lt, nI_toInt hb]
            have : (nI 0 - 1).toInt = -1 := by decide
            omega
          · rw [nI_m1 _ (by omega), Int32.lt_iff_toInt_lt, nI_toInt hb, nI_toInt (by omega)]
            omega
  · rw [if_neg k2] at c1
    refine pk_eqN t.2.1 2 (fun _ => h0 ?_) (fun z => absurd z k2) c1 rfl
    unfold figN
    rw [if_neg (fun q => k2 q.1)]
theorem takeStop_ok {S : St} {n p : Nat} {u : Nat → Nat} (hX : TX S n u) (hp : p ≤ n) (hC : CLS u S (tok u n p)) {Q : Int32 → St → Prop}
    (h0 : (tok u n p).2.1 ≠ 3 → Q 0 S) (h1 : (tok u n p).2.1 = 3 → ∀ S2, CLS u S2 (tok u n (tok u n p).2.2) → FR RL4 S S2 → Q 1 S2) : w_X3_takeStop S Q := by
  have e := tok_ends u n p hp
  have hk := tok_kind u n p
  obtain ⟨c1, c2, c3, c4⟩ := hC
  unfold w_X3_takeStop
  generalize tok u n p = t at *
  by_cases k3 : t.2.1 = 3
  · rw [if_neg (by omega)] at c1
    exact br_t (by rw [c1, k3]; rfl) (next_ok hX e.2.2.1 (c3 (by omega)) (h1 k3))
  · refine br_f ?_ (h0 k3)
    rw [c1]
    intro q
    have q2 := nI_inj (a := if t.2.1 = 2 then (if numI u t.1 t.2.2 = 0 then 4 else 2) else t.2.1) (b := 3) (by split <;> (try split) <;> omega) (by omega) q
    split at q2
    · split at q2 <;> omega
    · exact k3 q2
theorem wd_ch : ∀ i, i < 4 → ∀ k, k < lenS.getD i 0 → chS i (nI k) = nI ((wd i).getD k 0) ∧ (wd i).getD k 0 < 128 := by decide +kernel
theorem wd_len : ∀ i, i < 4 → lenS.getD i 0 = (wd i).length ∧ (wd i).length ≤ 6 := by decide
theorem isWord_loop {S : St} {n i st : Nat} {u : Nat → Nat} (hX : TX S n u) (hi : i < 4) (hst : st + (wd i).length ≤ n) {Q : Int32 → Prop}
    (h1 : (∀ k, k < (wd i).length → u (st + k) = (wd i).getD k 0) → Q 1) (h0 : ¬ (∀ k, k < (wd i).length → u (st + k) = (wd i).getD k 0) → Q 0) : ∀ (r k : Nat), k + r = (wd i).length → (∀ q, q < k → u (st + q) = (wd i).getD q 0) → X4_isWord_L15 S (nI st) i Q (Q 1) (r + 1) (nI k)
  | 0, k, hk, hq => by
    have hl := wd_len i hi
    rw [X4_isWord_L15]
    unfold w_J0_length_8abf5
    rw [hl.1]
    exact pk_le (wd i).length k (fun _ => h1 (fun q h => hq q (by omega))) (fun z => absurd z (by omega)) rfl rfl
  | r + 1, k, hk, hq => by
    have hl := wd_len i hi
    have hX' := hX
    obtain ⟨n3, -⟩ := hX'
    rw [X4_isWord_L15]
    unfold w_J0_length_8abf5 w_J0_charAt_5068e
    obtain ⟨g1, g2⟩ := wd_ch i hi k (by omega)
    rw [hl.1]
    refine pk_le (wd i).length k (fun z => absurd z (by omega)) (fun _ => ⟨vin (by omega), ?_⟩) rfl rfl
    rw [nI_add]
    refine isSign_ok hX (st + k) ((wd i).getD k 0) (by omega) (fun c => nb_t (by decide) ?_) (fun c => nb_f rfl (h0 (fun z => c (z k (by omega))))) rfl g1 g2
    rintro _ rfl
    rw [nI_1]
    refine isWord_loop hX hi hst h1 h0 r (k + 1) (by omega) (fun q h => ?_)
    by_cases d : q = k
    · subst d; exact c
    · exact hq q (by omega)
theorem isWord_ok {S : St} {n p i : Nat} {u : Nat → Nat} (hX : TX S n u) (hp : p ≤ n) (hC : CLS u S (tok u n p)) (hk : (tok u n p).2.1 = 1) (hi : i < 4) {Q : Int32 → Prop} (h1 : isW u (tok u n p) i → Q 1) (h0 : ¬ isW u (tok u n p) i → Q 0) : w_X4_isWord S (S.1 203 0) (S.1 204 0) i Q := by
  have e := tok_ends u n p hp
  have hl := wd_len i hi
  obtain ⟨c1, c2, c3, c4⟩ := hC
  have hX' := hX
  obtain ⟨n3, -⟩ := hX'
  unfold w_X4_isWord w_J0_length_8abf5
  rw [c2, c3 (by omega), pk_sub (by omega), hl.1]
  unfold isW at h1 h0
  refine pk_eq ((tok u n p).2.2 - (tok u n p).1) (wd i).length (fun c => ?_) (fun c => h0 (fun z => c z.2.1)) rfl rfl
  exact ⟨(wd i).length + 1, isWord_loop hX hi (by omega) (fun z => h1 ⟨hk, c, z⟩) (fun z => h0 (fun w => z w.2.2)) (wd i).length 0 (by omega) (fun q h => absurd h (Nat.not_lt_zero q))⟩
