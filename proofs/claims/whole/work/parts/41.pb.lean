/-! The model's reader. -/
def TXm (S : St) (n : Nat) (u : Nat → Nat) : Prop := n ≤ 300 ∧ S.1 5002 0 = nI n ∧ ∀ j, j < n → u j < 256 ∧ S.1 50 j = nI (u j)
theorem TXm.fr {L : List Nat} {S S2 : St} {n : Nat} {u : Nat → Nat} (h : TXm S n u) (hF : FR L S S2) (hL : ∀ c, c ∈ [5002, 50] → c ∉ L := by decide) : TXm S2 n u := by
  unfold TXm at h ⊢
  rw [hF.1 5002 (hL _ (by decide)), hF.1 50 (hL _ (by decide))]
  exact h
theorem TX.m {S : St} {n : Nat} {u : Nat → Nat} (h : TX S n u) : TXm S n u := ⟨h.1, h.2.2.1, fun j hj => ⟨(h.2.2.2 j hj).1, (h.2.2.2 j hj).2.1⟩⟩
def sortN (v : Nat) : Nat := if 97 ≤ v ∧ v ≤ 122 then 1 else if 48 ≤ v ∧ v ≤ 57 then 2 else if v = 59 then 3 else 4
def sortA (u : Nat → Nat) (n k : Nat) : Nat := if k < n then sortN (u k) else 0
theorem byteAt_ok {S : St} {n : Nat} {u : Nat → Nat} (hX : TXm S n u) {x : Int32} (k : Nat) {Q : Int32 → Prop} (h : Q (if k < n then nI (u k) else -1)) (hx : x = nI k := by rfl) (hk : k < 2 ^ 31 := by omega) : w_X7_byteAt S x Q := by
  subst hx
  obtain ⟨n3, em, hu⟩ := hX
  unfold w_X7_byteAt
  refine pk_le n k (fun c => ?_) (fun c => ⟨vin (by omega), ?_⟩) em rfl
  · rw [if_neg (by omega)] at h
    exact h
  · rw [if_pos c] at h
    rw [nI_clamp (by omega), (hu k c).2]
    exact h
theorem in_nI {v lo hi : Nat} {Q : Int32 → Prop} (hv : v < 2 ^ 31) (hl : lo < 2 ^ 31) (hh : hi < 2 ^ 31) (a : lo ≤ v ∧ v ≤ hi → Q 1) (b : ¬ (lo ≤ v ∧ v ≤ hi) → Q 0) : w_X7_in (nI v) (nI lo) (nI hi) Q := by
  unfold w_X7_in
  refine pk_lt v lo (fun c => b (by omega)) (fun c => pk_lt hi v (fun d => b (by omega)) (fun d => a (by omega)))
theorem sortOf_nI {v : Nat} (hv : v < 256) {Q : Int32 → Prop} (h : Q (nI (sortN v))) : w_X7_sortOf (nI v) Q := by
  unfold w_X7_sortOf
  unfold sortN at h
  refine pk_le 0 v (fun _ => ?_) (fun c => absurd c (by omega)) rfl rfl
  refine in_nI (lo := 97) (hi := 122) (by omega) (by omega) (by omega) (fun c => br_f (by decide) ?_) (fun c => br_t rfl ?_)
  · rw [if_pos c] at h
    exact h
  · rw [if_neg c] at h
    refine in_nI (lo := 48) (hi := 57) (by omega) (by omega) (by omega) (fun c => br_f (by decide) ?_) (fun c => br_t rfl ?_)
    · rw [if_pos c] at h
      exact h
    · rw [if_neg c] at h
      refine pk_eqN v 59 (fun c => ?_) (fun c => ?_)
      · rw [if_neg c] at h
        exact h
      · rw [if_pos c] at h
        exact h
theorem sortOf_m1 {Q : Int32 → Prop} (h : Q 0) : w_X7_sortOf (-1) Q := by
  unfold w_X7_sortOf
  exact br_f (by decide) h
theorem sortA_ok {S : St} {n : Nat} {u : Nat → Nat} (hX : TXm S n u) {x : Int32} (k : Nat) {Q : Int32 → Prop} (h : Q (nI (sortA u n k))) (hx : x = nI k := by rfl) (hk : k < 2 ^ 31 := by omega) : w_X7_byteAt S x (fun r => w_X7_sortOf r Q) := by
  unfold sortA at h
  refine byteAt_ok hX k ?_ hx hk
  by_cases c : k < n
  · rw [if_pos c] at h ⊢
    exact sortOf_nI (hX.2.2 k c).1 h
  · rw [if_neg c] at h ⊢
    exact sortOf_m1 h
theorem sortA_le (u : Nat → Nat) (n k : Nat) : sortA u n k ≤ 4 := by
  unfold sortA sortN
  split
  · split
    · omega
    · split
      · omega
      · split <;> omega
  · omega
def LO (k : Nat) : Nat := if k = 1 then 97 else 48
def HI (k : Nat) : Nat := if k = 1 then 122 else 57
theorem sortA_in {u : Nat → Nat} {n a k : Nat} (hk : k = 1 ∨ k = 2) : sortA u n a = k ↔ (a < n ∧ LO k ≤ u a ∧ u a ≤ HI k) := by
  unfold sortA sortN LO HI
  rcases hk with rfl | rfl
  · rw [if_pos rfl, if_pos rfl]
    constructor
    · intro q
      split at q
      · split at q
        · rename_i c1 c2
          exact ⟨c1, c2⟩
        · split at q
          · omega
          · split at q <;> omega
      · omega
    · intro q
      rw [if_pos q.1, if_pos q.2]
  · rw [if_neg (show ¬ (2 : Nat) = 1 by omega), if_neg (show ¬ (2 : Nat) = 1 by omega)]
    constructor
    · intro q
      split at q
      · split at q
        · omega
        · split at q
          · rename_i c1 c2 c3
            exact ⟨c1, c3⟩
          · split at q <;> omega
      · omega
    · intro q
      rw [if_pos q.1, if_neg (by omega), if_pos q.2]
theorem L0_ok {n : Nat} {u : Nat → Nat} {kx : St → Prop} : ∀ (f a : Nat) (S : St), TXm S n u → S.1 5008 0 = nI a → a ≤ n → n ≤ a + f → (∀ S2, S2.1 5008 0 = nI (rowF u n 32 32 f a) → FR [5008] S S2 → kx S2) → X7_token_L0 kx (f + 1) S
  | 0, a, S, hX, e, ha, hf, h => by
    have n3 := hX.1
    rw [X7_token_L0]
    refine byteAt_ok hX a ?_ e
    rw [if_neg (by omega)]
    exact nb_t (by decide) (h S e FR.rf)
  | f + 1, a, S, hX, e, ha, hf, h => by
    have n3 := hX.1
    rw [X7_token_L0]
    refine byteAt_ok hX a ?_ e
    rw [rowF] at h
    by_cases c : a < n
    · rw [if_pos c]
      have hu := (hX.2.2 a c).1
      refine pk_eqN (u a) 32 (fun d => ?_) (fun d => ?_)
      · rw [if_neg (by omega)] at h
        exact h S e FR.rf
      · rw [if_pos ⟨c, by omega⟩] at h
        rintro _ rfl
        have hF : FR [5008] S (setI S 5008 (S.1 5008 0 + 1)) := FR.set FR.rf (by decide)
        refine L0_ok f (a + 1) _ (hX.fr hF) ?_ (by omega) (by omega) (fun S2 e2 hF2 => h S2 e2 (hF.tr hF2))
        show S.1 5008 0 + 1 = nI (a + 1)
        rw [e, nI_1]
    · rw [if_neg c]
      rw [if_neg (fun q => c q.1)] at h
      exact nb_t (by decide) (h S e FR.rf)
theorem L54_ok {n k : Nat} {u : Nat → Nat} {kx : St → Prop} (hk : k = 1 ∨ k = 2) : ∀ (f a z : Nat) (S : St), TXm S n u → S.1 5008 0 = nI a → S.1 5009 0 = nI k → S.1 5011 0 = nI z → 1 ≤ z → z ≤ a → a ≤ n → n ≤ a + f → (∀ S2, S2.1 5008 0 = nI (rowF u n (LO k) (HI k) f a) → S2.1 5011 0 = nI (z + (rowF u n (LO k) (HI k) f a - a)) → FR [5008, 5011] S S2 → kx S2) → X7_token_L54 kx (f + 1) S := by
  intro f
  induction f with
  | zero =>
    intro a z S hX e e2 e3 hz hza ha hf h
    have n3 := hX.1
    rw [X7_token_L54]
    refine nm_e (nm_e ?_)
    refine pk_eqN z 0 (fun _ => nm_e ?_) (fun c => absurd c (by omega)) e3 rfl
    have fin : kx S := h S e (by rw [rowF]; rw [e3]; congr 1; omega) FR.rf
    have hs : sortA u n a ≠ k := fun q => by
      have := (sortA_in hk).mp q
      omega
    have goal : w_X7_byteAt S (S.1 5008 0) (fun r17 => w_X7_sortOf r17 (fun r18 => (¬ r18 = S.1 5009 0 → kx S) ∧ (r18 = S.1 5009 0 → ∀ S13 : St, S13 = setI S 5008 (S.1 5008 0 + 1) → ∀ S14 : St, S14 = setI S13 5011 (S13.1 5011 0 + 1) → X7_token_L54 kx 0 S14))) := by
      refine sortA_ok hX a ?_ e
      rw [e2]
      have := sortA_le u n a
      exact pk_eqN (sortA u n a) k (fun _ => fin) (fun q => absurd q hs)
    rcases hk with rfl | rfl
    · exact br_t e2 goal
    · exact br_f (by rw [e2]; decide) (nb_f e2 goal)
  | succ f ih =>
    intro a z S hX e e2 e3 hz hza ha hf h
    have n3 := hX.1
    rw [X7_token_L54]
    refine nm_e (nm_e ?_)
    refine pk_eqN z 0 (fun _ => nm_e ?_) (fun c => absurd c (by omega)) e3 rfl
    rw [rowF] at h
    have goal : w_X7_byteAt S (S.1 5008 0) (fun r17 => w_X7_sortOf r17 (fun r18 => (¬ r18 = S.1 5009 0 → kx S) ∧ (r18 = S.1 5009 0 → ∀ S13 : St, S13 = setI S 5008 (S.1 5008 0 + 1) → ∀ S14 : St, S14 = setI S13 5011 (S13.1 5011 0 + 1) → X7_token_L54 kx (f + 1) S14))) := by
      refine sortA_ok hX a ?_ e
      rw [e2]
      have := sortA_le u n a
      refine pk_eqN (sortA u n a) k (fun c => ?_) (fun c => ?_)
      · rw [if_neg (fun q => c ((sortA_in hk).mpr q))] at h
        exact h S e (by rw [e3]; congr 1; omega) FR.rf
      · have c2 := (sortA_in hk).mp c
        rw [if_pos c2] at h
        rintro _ rfl _ rfl
        have hF : FR [5008, 5011] S (setI (setI S 5008 (S.1 5008 0 + 1)) 5011 (S.1 5011 0 + 1)) := FR.set (FR.set FR.rf (by decide)) (by decide)
        refine ih (a + 1) (z + 1) _ (hX.fr hF) ?_ e2 ?_ (by omega) (by omega) (by omega) (by omega) (fun S2 g1 g2 hF2 => h S2 g1 ?_ (hF.tr hF2))
        · show S.1 5008 0 + 1 = nI (a + 1)
          rw [e, nI_1]
        · show S.1 5011 0 + 1 = nI (z + 1)
          rw [e3, nI_1]
        · rw [g2]
          have := rowF_ge u n (LO k) (HI k) f (a + 1)
          congr 1
          omega
    rcases hk with rfl | rfl
    · exact br_t e2 goal
    · exact br_f (by rw [e2]; decide) (nb_f e2 goal)
/-- the model stands at a token -/
def MOD (S : St) (t : Nat × Nat × Nat) : Prop := S.1 5009 0 = nI t.2.1 ∧ S.1 5010 0 = nI t.1 ∧ S.1 5011 0 = nI (t.2.2 - t.1) ∧ S.1 5008 0 = nI t.2.2
def ML4 : List Nat := [5008, 5009, 5010, 5011]
def MLst : List Nat := [5008, 5009, 5010, 5011, 52]
theorem ML4_sub : ∀ c, c ∈ ML4 → c ∈ MLst := by decide
theorem tok_eq {u : Nat → Nat} {n p s : Nat} (hs : row u n 32 32 p = s) : tok u n p = (s, sortA u n s, if sortA u n s = 0 then s else if sortA u n s = 1 then rowF u n 97 122 (n - (s + 1)) (s + 1) else if sortA u n s = 2 then rowF u n 48 57 (n - (s + 1)) (s + 1) else s + 1) := by
  unfold tok
  rw [hs]
  by_cases c : s < n
  · rw [if_pos c]
    obtain ⟨f, hf⟩ : ∃ f, n - s = f + 1 := ⟨n - s - 1, by omega⟩
    have hf2 : n - (s + 1) = f := by omega
    have r1 : row u n 97 122 s = if s < n ∧ 97 ≤ u s ∧ u s ≤ 122 then rowF u n 97 122 f (s + 1) else s := by unfold row; rw [hf]; rfl
    have r2 : row u n 48 57 s = if s < n ∧ 48 ≤ u s ∧ u s ≤ 57 then rowF u n 48 57 f (s + 1) else s := by unfold row; rw [hf]; rfl
    have g1 := rowF_ge u n 97 122 f (s + 1)
    have g2 := rowF_ge u n 48 57 f (s + 1)
    rw [hf2]
    by_cases c1 : 97 ≤ u s ∧ u s ≤ 122
    · rw [if_pos ⟨c, c1⟩] at r1
      have hA : sortA u n s = 1 := (sortA_in (Or.inl rfl)).mpr ⟨c, c1⟩
      rw [r1, if_pos (by omega), hA, if_neg (show ¬ (1 : Nat) = 0 by omega), if_pos rfl]
    · rw [if_neg (fun q => c1 q.2)] at r1
      by_cases c2 : 48 ≤ u s ∧ u s ≤ 57
      · rw [if_pos ⟨c, c2⟩] at r2
        have hA : sortA u n s = 2 := (sortA_in (Or.inr rfl)).mpr ⟨c, c2⟩
        rw [r1, if_neg (by omega), r2, if_pos (by omega), hA, if_neg (show ¬ (2 : Nat) = 0 by omega), if_neg (show ¬ (2 : Nat) = 1 by omega), if_pos rfl]
      · rw [if_neg (fun q => c2 q.2)] at r2
        have hA : sortA u n s = if u s = 59 then 3 else 4 := by
          unfold sortA sortN
          rw [if_pos c, if_neg c1, if_neg c2]
        rw [r1, if_neg (by omega), r2, if_neg (by omega), hA]
        by_cases c3 : u s = 59
        · rw [if_pos c3, if_neg (show ¬ (3 : Nat) = 0 by omega), if_neg (show ¬ (3 : Nat) = 1 by omega), if_neg (show ¬ (3 : Nat) = 2 by omega)]
        · rw [if_neg c3, if_neg (show ¬ (4 : Nat) = 0 by omega), if_neg (show ¬ (4 : Nat) = 1 by omega), if_neg (show ¬ (4 : Nat) = 2 by omega)]
  · have hA : sortA u n s = 0 := by unfold sortA; rw [if_neg c]
    rw [if_neg c, hA, if_pos rfl]
theorem token_ok {S : St} {n p : Nat} {u : Nat → Nat} (hX : TXm S n u) (hp : p ≤ n) (e8 : S.1 5008 0 = nI p) {Q : St → Prop} (h : ∀ S2, MOD S2 (tok u n p) → FR ML4 S S2 → Q S2) : w_X7_token S Q := by
  have n3 := hX.1
  have h1 : p ≤ row u n 32 32 p := rowF_ge u n 32 32 _ p
  have h2 : row u n 32 32 p ≤ n := rowF_le u n 32 32 _ p hp
  unfold w_X7_token
  refine ⟨n - p + 1, L0_ok (n - p) p S hX e8 hp (by omega) (fun S5 e5 hF5 => ?_)⟩
  obtain ⟨s, hs⟩ : ∃ s, row u n 32 32 p = s := ⟨_, rfl⟩
  rw [tok_eq hs] at h
  have e5' : S5.1 5008 0 = nI s := by rw [e5, ← hs]; rfl
  rw [hs] at h1 h2
  have hX5 := hX.fr hF5
  have hsl := sortA_le u n s
  have hin1 := @sortA_in u n s 1 (Or.inl rfl)
  have hin2 := @sortA_in u n s 2 (Or.inr rfl)
  have hlt : sortA u n s ≠ 0 → s < n := fun q => by
    unfold sortA at q
    by_cases c : s < n
    · exact c
    · rw [if_neg c] at q
      exact absurd rfl q
  rintro _ rfl
  refine sortA_ok (S := setI S5 5010 (S5.1 5008 0)) hX5 s ?_ e5'
  rintro _ rfl _ rfl
  generalize hk : sortA u n s = k at h hsl hin1 hin2 hlt ⊢
  have hX10 : TXm (setI (setI (setI S5 5010 (S5.1 5008 0)) 5009 (nI k)) 5011 0) n u := hX5
  have hF10 : FR ML4 S (setI (setI (setI S5 5010 (S5.1 5008 0)) 5009 (nI k)) 5011 0) := FR.set (FR.set (FR.set (hF5.mono (by decide)) (by decide)) (by decide)) (by decide)
  generalize hS : setI (setI (setI S5 5010 (S5.1 5008 0)) 5009 (nI k)) 5011 0 = S1 at hX10 hF10 ⊢
  have a8 : S1.1 5008 0 = nI s := by rw [← hS]; exact e5'
  have a9 : S1.1 5009 0 = nI k := by rw [← hS]; rfl
  have a10 : S1.1 5010 0 = nI s := by rw [← hS]; exact e5'
  have a11 : S1.1 5011 0 = 0 := by rw [← hS]; rfl
  have first : k ≠ 0 → ∀ f : Nat, X7_token_L54 (fun S20 => Q S20) f (setI (setI S1 5008 (S1.1 5008 0 + 1)) 5011 (S1.1 5011 0 + 1)) → X7_token_L54 (fun S20 => Q S20) (f + 1) S1 := by
    intro hk0 f hh
    rw [X7_token_L54]
    refine nm_e (nm_e (nb_f a11 ?_))
    refine pk_eqN k 0 (fun _ => ?_) (fun c => absurd c hk0) a9 rfl
    rintro _ rfl _ rfl
    exact hh
  have hF2 : FR [5008, 5011] S1 (setI (setI S1 5008 (S1.1 5008 0 + 1)) 5011 (S1.1 5011 0 + 1)) := FR.set (FR.set FR.rf (by decide)) (by decide)
  have b8 : (setI (setI S1 5008 (S1.1 5008 0 + 1)) 5011 (S1.1 5011 0 + 1)).1 5008 0 = nI (s + 1) := by
    show S1.1 5008 0 + 1 = _
    rw [a8, nI_1]
  have b11 : (setI (setI S1 5008 (S1.1 5008 0 + 1)) 5011 (S1.1 5011 0 + 1)).1 5011 0 = nI 1 := by
    show S1.1 5011 0 + 1 = _
    rw [a11]
    rfl
  by_cases k0 : k = 0
  · subst k0
    refine ⟨1, ?_⟩
    rw [X7_token_L54]
    refine nm_e (nm_e (nb_f a11 (nb_f a9 (nm_e ?_))))
    refine br_f (by rw [a9]; decide) (nb_t (by rw [a9]; decide) ?_)
    rw [if_pos rfl] at h
    exact h S1 ⟨a9, a10, by rw [a11, Nat.sub_self]; rfl, a8⟩ hF10
  · rw [if_neg k0] at h
    have hsn := hlt k0
    have row12 : ∀ (hk12 : k = 1 ∨ k = 2), (∀ S2, MOD S2 (s, k, rowF u n (LO k) (HI k) (n - (s + 1)) (s + 1)) → FR ML4 S S2 → Q S2) → ∃ m, X7_token_L54 (fun S20 => Q S20) m S1 := by
      intro hk12 hh
      refine ⟨n - (s + 1) + 1 + 1, first k0 _ ?_⟩
      refine L54_ok hk12 (n - (s + 1)) (s + 1) 1 _ (hX10.fr hF2) b8 a9 b11 (by omega) (by omega) (by omega) (by omega) (fun S2 g1 g2 hF3 => ?_)
      have hF12 := hF2.tr hF3
      have hge := rowF_ge u n (LO k) (HI k) (n - (s + 1)) (s + 1)
      refine hh S2 ⟨?_, ?_, ?_, g1⟩ (hF10.tr (hF12.mono (by decide)))
      · rw [hF12.1 5009 (by decide)]
        exact a9
      · rw [hF12.1 5010 (by decide)]
        exact a10
      · rw [g2]
        congr 1
        show 1 + _ = rowF u n (LO k) (HI k) (n - (s + 1)) (s + 1) - s
        omega
    by_cases k1 : k = 1
    · subst k1
      rw [if_pos rfl] at h
      exact row12 (Or.inl rfl) h
    · rw [if_neg k1] at h
      by_cases k2 : k = 2
      · subst k2
        rw [if_pos rfl] at h
        exact row12 (Or.inr rfl) h
      · rw [if_neg k2] at h
        refine ⟨2, first k0 _ ?_⟩
        rw [X7_token_L54]
        refine nm_e (nm_e (nb_t (by rw [b11]; decide) (nm_e ?_)))
        have hne : ∀ c : Nat, c ≤ 4 → k ≠ c → ¬ (setI (setI S1 5008 (S1.1 5008 0 + 1)) 5011 (S1.1 5011 0 + 1)).1 5009 0 = nI c := by
          intro c hc hkc q
          have q2 : nI k = nI c := by rw [← a9]; exact q
          exact hkc (nI_inj (by omega) (by omega) q2)
        refine br_f (hne 1 (by omega) k1) (nb_t (hne 2 (by omega) k2) ?_)
        refine h _ ⟨a9, a10, ?_, b8⟩ (hF10.tr (hF2.mono (by decide)))
        rw [b11]
        congr 1
        show 1 = s + 1 - s
        omega
def val (u : Nat → Nat) (s : Nat) : Nat → Nat
  | 0 => 0
  | k + 1 => 256 * val u s k + u (s + k)
theorem val_lt {u : Nat → Nat} {s : Nat} : ∀ {k : Nat}, (∀ q, q < k → u (s + q) < 256) → val u s k < 256 ^ k
  | 0, _ => Nat.one_pos
  | k + 1, h => by
    have h1 := val_lt (k := k) (fun q hq => h q (by omega))
    have h2 := h k (by omega)
    rw [val, Nat.pow_succ]
    omega
theorem val_inj {u w : Nat → Nat} {s : Nat} : ∀ {k k2 : Nat}, (∀ q, q < k → 1 ≤ u (s + q) ∧ u (s + q) < 256) → (∀ q, q < k2 → 1 ≤ w (0 + q) ∧ w (0 + q) < 256) → val u s k = val w 0 k2 → k = k2 ∧ ∀ q, q < k → u (s + q) = w (0 + q)
  | 0, 0, _, _, _ => ⟨rfl, fun q hq => absurd hq (Nat.not_lt_zero q)⟩
  | 0, k2 + 1, _, h2, h => by
    have := h2 k2 (by omega)
    rw [val, val] at h
    omega
  | k + 1, 0, h1, _, h => by
    have := h1 k (by omega)
    rw [val, val] at h
    omega
  | k + 1, k2 + 1, h1, h2, h => by
    have a1 := h1 k (by omega)
    have a2 := h2 k2 (by omega)
    rw [val, val] at h
    obtain ⟨e1, e2⟩ := val_inj (k := k) (k2 := k2) (fun q hq => h1 q (by omega)) (fun q hq => h2 q (by omega)) (by omega)
    subst e1
    refine ⟨rfl, fun q hq => ?_⟩
    by_cases c : q = k
    · subst c
      omega
    · exact e2 q (by omega)
theorem long_nI {v : Nat} (h : v < 256) : (nI v).toInt64 = Int64.ofNat v := by
  apply Int64.toInt_inj.mp
  rw [Int32.toInt_toInt64, nI_toInt (by omega), Int64.toInt_ofNat_of_lt (by omega)]
theorem long_inj {a b : Nat} (ha : a < 2 ^ 63) (hb : b < 2 ^ 63) (h : Int64.ofNat a = Int64.ofNat b) : a = b := by
  have h2 := congrArg Int64.toInt h
  rw [Int64.toInt_ofNat_of_lt ha, Int64.toInt_ofNat_of_lt hb] at h2
  omega
theorem verb_loop {S : St} {n s z : Nat} {u : Nat → Nat} (hX : TXm S n u) (hz : z < 7) (hsz : s + z ≤ n) (e9 : S.1 5009 0 = 1) (e10 : S.1 5010 0 = nI s) (e11 : S.1 5011 0 = nI z) {kx : Int64 → Prop} (h : kx (Int64.ofNat (val u s z))) : ∀ (r k : Nat), k + r = z → X7_verb_L4 S kx (r + 1) (Int64.ofNat (val u s k)) (nI k)
  | 0, k, hk => by
    have n3 := hX.1
    obtain rfl : k = z := by omega
    rw [X7_verb_L4]
    exact pk_le k k (fun _ => h) (fun c => absurd c (by omega)) e11 rfl
  | r + 1, k, hk => by
    have n3 := hX.1
    rw [X7_verb_L4]
    refine pk_le z k (fun c => absurd c (by omega)) (fun _ => pk_le 7 z (fun c => absurd c (by omega)) (fun _ => nb_f e9 ?_) rfl e11) e11 rfl
    rw [e10, nI_add]
    refine byteAt_ok hX (s + k) ?_
    rw [if_pos (by omega)]
    rintro _ rfl _ rfl
    have hu := (hX.2.2 (s + k) (by omega)).1
    rw [nI_1, long_nI hu, show (256 : Int64) = Int64.ofNat 256 from rfl, ← Int64.ofNat_mul, ← Int64.ofNat_add]
    exact verb_loop hX hz hsz e9 e10 e11 h r (k + 1) (by omega)
