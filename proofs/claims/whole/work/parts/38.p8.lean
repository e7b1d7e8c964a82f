/-! The text and its tokens: first the pure reading, then both readers' small methods. -/
def TX (S : St) (n : Nat) (u : Nat → Nat) : Prop := n ≤ 300 ∧ S.1 301 0 = nI n ∧ S.1 5002 0 = nI n ∧ ∀ j, j < n → u j < 256 ∧ S.1 50 j = nI (u j) ∧ S.1 3 j = (nI (u j)).toInt8.toInt32
theorem TX_of {S : St} {n : Nat} (h : TEXT S n) : ∃ u, TX S n u := by
  obtain ⟨a, b, c, d⟩ := h
  refine ⟨fun j => if hj : j < n then (d j hj).choose else 0, a, b, c, fun j hj => ?_⟩
  have e : (if hj : j < n then (d j hj).choose else 0) = (d j hj).choose := dif_pos hj
  show (if hj : j < n then (d j hj).choose else 0) < 256 ∧ S.1 50 j = nI (if hj : j < n then (d j hj).choose else 0) ∧ S.1 3 j = (nI (if hj : j < n then (d j hj).choose else 0)).toInt8.toInt32
  rw [e]
  exact (d j hj).choose_spec
theorem TX.fr {L : List Nat} {S S2 : St} {n : Nat} {u : Nat → Nat} (h : TX S n u) (hF : FR L S S2) (hL : ∀ c, c ∈ [301, 3, 5002, 50] → c ∉ L := by decide) : TX S2 n u := by
  unfold TX at h ⊢
  rw [hF.1 301 (hL _ (by decide)), hF.1 3 (hL _ (by decide)), hF.1 5002 (hL _ (by decide)), hF.1 50 (hL _ (by decide))]
  exact h
def rowF (u : Nat → Nat) (n lo hi : Nat) : Nat → Nat → Nat
  | 0, a => a
  | f + 1, a => if a < n ∧ lo ≤ u a ∧ u a ≤ hi then rowF u n lo hi f (a + 1) else a
def row (u : Nat → Nat) (n lo hi a : Nat) : Nat := rowF u n lo hi (n - a) a
theorem rowF_ge (u : Nat → Nat) (n lo hi : Nat) : ∀ f a, a ≤ rowF u n lo hi f a
  | 0, a => Nat.le_refl _
  | f + 1, a => by
    rw [rowF]
    split
    · exact Nat.le_trans (Nat.le_succ a) (rowF_ge u n lo hi f (a + 1))
    · exact Nat.le_refl _
theorem rowF_le (u : Nat → Nat) (n lo hi : Nat) : ∀ f a, a ≤ n → rowF u n lo hi f a ≤ n
  | 0, a, h => h
  | f + 1, a, h => by
    rw [rowF]
    split
    · rename_i c
      exact rowF_le u n lo hi f (a + 1) (by omega)
    · exact h
theorem rowF_in (u : Nat → Nat) (n lo hi : Nat) : ∀ f a k, a ≤ k → k < rowF u n lo hi f a → lo ≤ u k ∧ u k ≤ hi
  | 0, a, k, h1, h2 => absurd h2 (by rw [rowF]; omega)
  | f + 1, a, k, h1, h2 => by
    rw [rowF] at h2
    by_cases c : a < n ∧ lo ≤ u a ∧ u a ≤ hi
    · rw [if_pos c] at h2
      by_cases hk : k = a
      · subst hk; exact c.2
      · exact rowF_in u n lo hi f (a + 1) k (by omega) h2
    · rw [if_neg c] at h2
      omega
theorem rowF_out (u : Nat → Nat) (n lo hi : Nat) : ∀ f a, n ≤ a + f → ¬ (rowF u n lo hi f a < n ∧ lo ≤ u (rowF u n lo hi f a) ∧ u (rowF u n lo hi f a) ≤ hi)
  | 0, a, h => by
    rw [rowF]
    omega
  | f + 1, a, h => by
    rw [rowF]
    by_cases c : a < n ∧ lo ≤ u a ∧ u a ≤ hi
    · rw [if_pos c]
      exact rowF_out u n lo hi f (a + 1) (by omega)
    · rw [if_neg c]
      exact c
/-- the next token from a place: where it begins, its kind (0 end, 1 word, 2 figures, 3 stop, 4 other), where it ends -/
def tok (u : Nat → Nat) (n p : Nat) : Nat × Nat × Nat :=
  if row u n 32 32 p < n then
    (if row u n 32 32 p < row u n 97 122 (row u n 32 32 p) then (row u n 32 32 p, 1, row u n 97 122 (row u n 32 32 p))
     else if row u n 32 32 p < row u n 48 57 (row u n 32 32 p) then (row u n 32 32 p, 2, row u n 48 57 (row u n 32 32 p))
     else (row u n 32 32 p, if u (row u n 32 32 p) = 59 then 3 else 4, row u n 32 32 p + 1))
  else (row u n 32 32 p, 0, row u n 32 32 p)
theorem tok_ends (u : Nat → Nat) (n p : Nat) (h : p ≤ n) : p ≤ (tok u n p).1 ∧ (tok u n p).1 ≤ (tok u n p).2.2 ∧ (tok u n p).2.2 ≤ n ∧ ((tok u n p).2.1 ≠ 0 → (tok u n p).1 < (tok u n p).2.2) := by
  have h1 : p ≤ row u n 32 32 p := rowF_ge u n 32 32 _ p
  have h2 : row u n 32 32 p ≤ n := rowF_le u n 32 32 _ p h
  have h3 : row u n 97 122 (row u n 32 32 p) ≤ n := rowF_le u n 97 122 _ _ h2
  have h4 : row u n 48 57 (row u n 32 32 p) ≤ n := rowF_le u n 48 57 _ _ h2
  unfold tok
  split
  · split
    · exact ⟨h1, by simp; omega, h3, fun _ => by simpa⟩
    · split
      · exact ⟨h1, by simp; omega, h4, fun _ => by simpa⟩
      · exact ⟨h1, by simp, by simp; omega, fun _ => by simp⟩
  · exact ⟨h1, Nat.le_refl _, h2, fun q => absurd rfl q⟩
theorem sbA : ∀ u : Nat, u < 128 → (nI u).toInt8.toInt32 = nI u := by decide +kernel
theorem sbB : ∀ u : Nat, u < 256 → 128 ≤ u → (nI u).toInt8.toInt32 < 0 := by decide +kernel
theorem within_sb {u lo hi : Nat} {x : Int32} {Q : Int32 → Prop} (hx : x = (nI u).toInt8.toInt32) (hu : u < 256) (h1 : hi < 128) (hl : lo ≤ hi) (a : lo ≤ u ∧ u ≤ hi → Q 1) (b : ¬ (lo ≤ u ∧ u ≤ hi) → Q 0) : w_X6_within x (nI lo) (nI hi) Q := by
  subst hx
  by_cases c : u < 128
  · rw [sbA u c]
    by_cases d : lo ≤ u ∧ u ≤ hi
    · exact within_in lo hi u d.1 d.2 (a d)
    · refine within_out ?_ (b d)
      by_cases e : u < lo
      · left
        rw [Int32.lt_iff_toInt_lt, nI_toInt (by omega), nI_toInt (by omega)]
        omega
      · right
        rw [Int32.lt_iff_toInt_lt, nI_toInt (by omega), nI_toInt (by omega)]
        omega
  · refine within_out (Or.inl ?_) (b (by omega))
    have h0 := Int32.lt_iff_toInt_lt.mp (sbB u hu (by omega))
    rw [Int32.lt_iff_toInt_lt, nI_toInt (by omega)]
    have : (0 : Int32).toInt = 0 := rfl
    omega
theorem sb_eq {u c : Nat} (hu : u < 256) (hc : c < 128) : (nI u).toInt8.toInt32 = nI c ↔ u = c := by
  by_cases d : u < 128
  · rw [sbA u d]
    constructor
    · intro q
      exact nI_inj (by omega) (by omega) q
    · intro q
      rw [q]
  · constructor
    · intro q
      have h0 := Int32.lt_iff_toInt_lt.mp (sbB u hu (by omega))
      rw [q, nI_toInt (by omega)] at h0
      have : (0 : Int32).toInt = 0 := rfl
      omega
    · intro q
      omega
theorem behindRow_loop {S : St} {n : Nat} {u : Nat → Nat} (hX : TX S n u) {lo hi : Nat} (hh : hi < 128) (hl : lo ≤ hi) {kx : Int32 → Prop} : ∀ (f a : Nat), a ≤ n → n ≤ a + f → kx (nI (rowF u n lo hi f a)) → X4_behindRow_L3 S (nI lo) (nI hi) kx (f + 1) (nI a)
  | 0, a, ha, hf, h => by
    obtain ⟨n3, ec, em, hu⟩ := hX
    rw [X4_behindRow_L3]
    exact pk_le n a (fun _ => h) (fun z => absurd z (by omega)) ec rfl
  | f + 1, a, ha, hf, h => by
    have hX' := hX
    obtain ⟨n3, ec, em, hu⟩ := hX'
    rw [rowF] at h
    rw [X4_behindRow_L3]
    refine pk_le n a (fun z => ?_) (fun z => ⟨vin (by omega), ?_⟩) ec rfl
    · rw [if_neg (by omega)] at h
      exact h
    · rw [nI_clamp (by omega)]
      obtain ⟨u1, u2, u3⟩ := hu a z
      refine within_sb u3 u1 hh hl (fun c => br_f (by decide) ?_) (fun c => br_t rfl ?_)
      · rintro _ rfl
        rw [nI_1]
        rw [if_pos ⟨z, c⟩] at h
        exact behindRow_loop hX hh hl f (a + 1) (by omega) (by omega) h
      · rw [if_neg (fun q => c q.2)] at h
        exact h
theorem behindRow_ok {S : St} {n : Nat} {u : Nat → Nat} (hX : TX S n u) {x y z : Int32} (lo hi a : Nat) {Q : Int32 → Prop} (ha : a ≤ n) (h : Q (nI (row u n lo hi a))) (hx : x = nI a := by rfl) (hy : y = nI lo := by rfl) (hz : z = nI hi := by rfl) (hh : hi < 128 := by omega) (hl : lo ≤ hi := by omega) : w_X4_behindRow S x y z Q := by
  subst hx; subst hy; subst hz
  exact ⟨n - a + 1, behindRow_loop hX hh hl (kx := fun v => Q v) (n - a) a ha (by omega) h⟩
theorem isSign_ok {S : St} {n : Nat} {u : Nat → Nat} (hX : TX S n u) {x y : Int32} (p c : Nat) {Q : Int32 → Prop} (hp : p < n) (h1 : u p = c → Q 1) (h0 : u p ≠ c → Q 0) (hx : x = nI p := by rfl) (hy : y = nI c := by rfl) (hc : c < 128 := by omega) : w_X4_isSign S x y Q := by
  subst hx; subst hy
  obtain ⟨n3, ec, em, hu⟩ := hX
  obtain ⟨u1, u2, u3⟩ := hu p hp
  unfold w_X4_isSign
  rw [ec, nI_m1 _ (by omega)]
  refine within_in 0 (n - 1) p (by omega) (by omega) (br_f (by decide) ⟨vin (by omega), ?_⟩)
  rw [nI_clamp (by omega), u3]
  by_cases d : u p = c
  · exact nb_f ((sb_eq u1 hc).mpr d) (h1 d)
  · exact nb_t (fun q => d ((sb_eq u1 hc).mp q)) (h0 d)
/-- what a row of digits is to the class: one more than its number, or 0 -/
def numI (u : Nat → Nat) (a e : Nat) : Nat := if (u a = 48 ∧ 1 < e - a) ∨ 2 < e - a then 0 else (if e - a = 1 then u a - 48 else 10 * (u a - 48) + (u (a + 1) - 48)) + 1
theorem numberIn_ok {S : St} {n : Nat} {u : Nat → Nat} (hX : TX S n u) {a e : Nat} {Q : Int32 → Prop} (ha : a < e) (he : e ≤ n) (hd : ∀ k, a ≤ k → k < e → 48 ≤ u k ∧ u k ≤ 57) (h0 : numI u a e = 0 → Q (-1)) (h1 : ∀ v, numI u a e = v + 1 → Q (nI v)) : w_X4_numberIn S (nI a) (nI e) Q := by
  have hX' := hX
  obtain ⟨n3, ec, em, hu⟩ := hX'
  have esub : nI e - nI a = nI (e - a) := pk_sub (by omega)
  have step : ∀ (w : Nat), u w < 256 ∧ S.1 50 w = nI (u w) ∧ S.1 3 w = (nI (u w)).toInt8.toInt32 → 48 ≤ u w ∧ u w ≤ 57 → ∀ v : Nat, 10 * nI v + S.1 3 w - 48 = nI (10 * v + (u w - 48)) := by
    intro w hw hw2 v
    rw [hw.2.2, sbA _ (by omega), show (10 : Int32) = nI 10 from rfl, pk_mul, nI_add, show (48 : Int32) = nI 48 from rfl, pk_sub (by omega)]
    congr 1
    omega
  have ua := hd a (by omega) (by omega)
  unfold w_X4_numberIn
  rw [esub]
  refine pk_le (e - a) 2 (fun c => ?_) (fun c => h0 (by rw [numI, if_pos (Or.inr (by omega))])) rfl rfl
  by_cases c1 : e - a = 1
  · obtain rfl : e = a + 1 := by omega
    have hv : numI u a (a + 1) = (u a - 48) + 1 := by rw [numI, if_neg (by omega), if_pos (by omega)]
    refine ⟨2, ?_⟩
    rw [X4_numberIn_L14]
    refine pk_le (a + 1) a (fun q => absurd q (by omega)) (fun _ => pk_le n a (fun q => absurd q (by omega)) (fun _ => nm_e (nm_e (pk_le a a (fun _ => br_t rfl ⟨vin (by omega), ?_⟩) (fun q => absurd q (by omega))))) ec rfl)
    rintro _ rfl _ rfl
    rw [nI_clamp (by omega), show (0 : Int32) = nI 0 from rfl, step a (hu a (by omega)) ua 0, nI_1, X4_numberIn_L14]
    refine pk_le (a + 1) (a + 1) (fun _ => ?_) (fun q => absurd q (by omega))
    have := h1 (u a - 48) hv
    rwa [show 10 * 0 + (u a - 48) = u a - 48 by omega]
  · obtain rfl : e = a + 2 := by omega
    refine ⟨3, ?_⟩
    rw [X4_numberIn_L14]
    refine pk_le (a + 2) a (fun q => absurd q (by omega)) (fun _ => pk_le n a (fun q => absurd q (by omega)) (fun _ => nm_e (nm_e (pk_le a a (fun _ => br_t rfl ⟨vin (by omega), ?_⟩) (fun q => absurd q (by omega))))) ec rfl)
    rintro _ rfl _ rfl
    rw [nI_clamp (by omega), show (0 : Int32) = nI 0 from rfl, step a (hu a (by omega)) ua 0, nI_1, X4_numberIn_L14]
    refine pk_le (a + 2) (a + 1) (fun q => absurd q (by omega)) (fun _ => pk_le n (a + 1) (fun q => absurd q (by omega)) (fun _ => nm_e (nm_e (pk_le (a + 1) a (fun q => absurd q (by omega)) (fun _ => pk_eqN (10 * 0 + (u a - 48)) 0 (fun z => br_t rfl ⟨vin (by omega), ?_⟩) (fun z => br_f (by decide) (h0 (by rw [numI, if_pos (Or.inl ⟨by omega, by omega⟩)]))))))) ec rfl)
    have hv : numI u a (a + 2) = (10 * (u a - 48) + (u (a + 1) - 48)) + 1 := by rw [numI, if_neg (by omega), if_neg (by omega)]
    rintro _ rfl _ rfl
    rw [nI_clamp (by omega), step (a + 1) (hu _ (by omega)) (hd _ (by omega) (by omega)), nI_1, X4_numberIn_L14]
    refine pk_le (a + 2) (a + 1 + 1) (fun _ => ?_) (fun q => absurd q (by omega))
    have := h1 _ hv
    rwa [show 10 * (10 * 0 + (u a - 48)) + (u (a + 1) - 48) = 10 * (u a - 48) + (u (a + 1) - 48) by omega]
/-- the class stands at a token -/
def CLS (u : Nat → Nat) (S : St) (t : Nat × Nat × Nat) : Prop := S.1 202 0 = nI (if t.2.1 = 2 then (if numI u t.1 t.2.2 = 0 then 4 else 2) else t.2.1) ∧ S.1 203 0 = nI t.1 ∧ (t.2.1 ≠ 0 → S.1 204 0 = nI t.2.2) ∧ (t.2.1 = 2 → numI u t.1 t.2.2 ≠ 0 → S.1 205 0 = nI (numI u t.1 t.2.2 - 1))
theorem next_ok {S : St} {n : Nat} {u : Nat → Nat} (hX : TX S n u) {p : Nat} (hp : p ≤ n) (e4 : S.1 204 0 = nI p) {Q : St → Prop} (h : ∀ S2, CLS u S2 (tok u n p) → FR [202, 203, 204, 205] S S2 → Q S2) : w_X3_next S Q := by
  have h1 : p ≤ row u n 32 32 p := rowF_ge u n 32 32 _ p
  have h2 : row u n 32 32 p ≤ n := rowF_le u n 32 32 _ p hp
  have h3 : row u n 97 122 (row u n 32 32 p) ≤ n := rowF_le u n 97 122 _ _ h2
  have h4 : row u n 48 57 (row u n 32 32 p) ≤ n := rowF_le u n 48 57 _ _ h2
  have g3 : row u n 32 32 p ≤ row u n 97 122 (row u n 32 32 p) := rowF_ge u n 97 122 _ _
  have g4 : row u n 32 32 p ≤ row u n 48 57 (row u n 32 32 p) := rowF_ge u n 48 57 _ _
  have hX' := hX
  obtain ⟨n3, ec, em, hu⟩ := hX'
  unfold w_X3_next
  refine behindRow_ok hX 32 32 p hp ?_ e4
  unfold tok at h
  generalize hs : row u n 32 32 p = s at h h1 h2 h3 h4 g3 g4 ⊢
  rintro S2 rfl
  refine pk_lt s n (fun c => ?_) (fun c => ?_) rfl ec
  · rw [if_pos c] at h
    refine behindRow_ok (S := setI S 203 (nI s)) hX 97 122 s h2 ?_
    generalize hw : row u n 97 122 s = w at h h3 g3 ⊢
    rintro S4 rfl
    refine pk_le w s (fun d => ?_) (fun d => ?_) rfl rfl
    · rw [if_neg (by omega)] at h
      refine behindRow_ok (S := setI (setI S 203 (nI s)) 204 (nI w)) hX 48 57 s h2 ?_
      generalize hg : row u n 48 57 s = g at h h4 g4 ⊢
      rintro S6 rfl
      refine pk_le g s (fun d2 => ?_) (fun d2 => ?_) rfl rfl
      · rw [if_neg (by omega)] at h
        rintro S7 rfl
        have hF : ∀ k : Int32, FR [202, 203, 204, 205] S (setI (setI (setI (setI (setI S 203 (nI s)) 204 (nI w)) 204 (nI g)) 204 (nI s + 1)) 202 k) := fun k => FR.set (FR.set (FR.set (FR.set (FR.set FR.rf (by decide)) (by decide)) (by decide)) (by decide)) (by decide)
        refine isSign_ok (S := setI (setI (setI (setI S 203 (nI s)) 204 (nI w)) 204 (nI g)) 204 (nI s + 1)) hX s 59 c (fun q => br_f (by decide) ?_) (fun q => br_t rfl ?_)
        · rintro S10 rfl
          rw [if_pos q] at h
          exact h _ ⟨rfl, rfl, fun _ => nI_1 s, fun z => absurd (show (3 : Nat) = 2 from z) (by decide)⟩ (hF _)
        · rintro S9 rfl
          rw [if_neg q] at h
          exact h _ ⟨rfl, rfl, fun _ => nI_1 s, fun z => absurd (show (4 : Nat) = 2 from z) (by decide)⟩ (hF _)
      · rw [if_pos d2] at h
        have hF : ∀ (a k : Int32), FR [202, 203, 204, 205] S (setI (setI (setI (setI (setI S 203 (nI s)) 204 (nI w)) 204 (nI g)) 205 a) 202 k) := fun a k => FR.set (FR.set (FR.set (FR.set (FR.set FR.rf (by decide)) (by decide)) (by decide)) (by decide)) (by decide)
        refine numberIn_ok (S := setI (setI (setI S 203 (nI s)) 204 (nI w)) 204 (nI g)) hX d2 h4 (fun k k1 k2 => ?_) (fun z => ?_) (fun v z => ?_)
        · rw [← hg] at k2
          exact rowF_in u n 48 57 _ s k k1 k2
        · rintro S12 rfl
          refine br_f (show ¬ ((0 : Int32) ≤ (-1 : Int32)) by decide) ?_
          rintro S14 rfl
          exact h _ ⟨by rw [if_pos rfl, if_pos z]; rfl, rfl, fun _ => rfl, fun _ z2 => absurd z z2⟩ (hF _ _)
        · rintro S12 rfl
          have hv : v < 2 ^ 31 := by
            have : numI u s g ≤ 10 * 256 + 256 + 1 := by
              unfold numI
              have a1 := (hu s c).1
              split
              · omega
              · split
                · omega
                · have a2 : u (s + 1) < 256 := (hu (s + 1) (by omega)).1
                  omega
            omega
          refine pk_le 0 v (fun _ => ?_) (fun z2 => absurd z2 (by omega)) rfl rfl
          rintro S13 rfl
          exact h _ ⟨by rw [if_pos rfl, if_neg (by rw [z]; omega)]; rfl, rfl, fun _ => rfl, fun _ _ => by rw [z]; rfl⟩ (hF _ _)
    · rw [if_pos d] at h
      rintro S15 rfl
      exact h _ ⟨rfl, rfl, fun _ => rfl, fun z => absurd (show (1 : Nat) = 2 from z) (by decide)⟩ (FR.set (FR.set (FR.set FR.rf (by decide)) (by decide)) (by decide))
  · rw [if_neg (by omega)] at h
    rintro S16 rfl
    exact h _ ⟨rfl, rfl, fun z => absurd rfl z, fun z => absurd (show (0 : Nat) = 2 from z) (by decide)⟩ (FR.set (FR.set FR.rf (by decide)) (by decide))
