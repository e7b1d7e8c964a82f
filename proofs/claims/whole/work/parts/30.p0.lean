/-! The pure side: what the state means, and small facts. -/
theorem nb_t {c A B : Prop} (h : ¬ c) (a : A) : (¬ c → A) ∧ (c → B) := ⟨fun _ => a, fun z => absurd z h⟩
theorem nb_f {c A B : Prop} (h : c) (b : B) : (¬ c → A) ∧ (c → B) := ⟨fun z => absurd h z, fun _ => b⟩
theorem pk_leN {x y : Int32} {A B : Prop} (a b : Nat) (f : b < a → A) (g : a ≤ b → B) (hx : x = nI a := by rfl) (hy : y = nI b := by rfl) (ha : a < 2 ^ 31 := by omega) (hb : b < 2 ^ 31 := by omega) : (¬ x ≤ y → A) ∧ (x ≤ y → B) := (pk_le a b g f hx hy ha hb).symm
theorem pk_ltN {x y : Int32} {A B : Prop} (a b : Nat) (f : b ≤ a → A) (g : a < b → B) (hx : x = nI a := by rfl) (hy : y = nI b := by rfl) (ha : a < 2 ^ 31 := by omega) (hb : b < 2 ^ 31 := by omega) : (¬ x < y → A) ∧ (x < y → B) := (pk_lt a b g f hx hy ha hb).symm
theorem pk_eqN {x y : Int32} {A B : Prop} (a b : Nat) (f : a ≠ b → A) (g : a = b → B) (hx : x = nI a := by rfl) (hy : y = nI b := by rfl) (ha : a < 2 ^ 31 := by omega) (hb : b < 2 ^ 31 := by omega) : (¬ x = y → A) ∧ (x = y → B) := (pk_eq a b g f hx hy ha hb).symm
/-- a guard 'lo ≤ x ≤ hi' over any number: inside it is a small number, or outside -/
theorem rng_cases (x : Int32) (lo hi : Nat) (hh : hi < 2 ^ 31) (hl : lo < 2 ^ 31) : (∃ j : Nat, lo ≤ j ∧ j ≤ hi ∧ x = nI j) ∨ (x < nI lo ∨ nI hi < x) := by
  by_cases h : x < nI lo ∨ nI hi < x
  · exact Or.inr h
  · refine Or.inl ?_
    have h1 : nI lo ≤ x := Int32.not_lt.mp (fun z => h (Or.inl z))
    have h2 : x ≤ nI hi := Int32.not_lt.mp (fun z => h (Or.inr z))
    have e2 := Int32.le_iff_toInt_le.mp h2
    rw [nI_toInt hh] at e2
    have e1 := Int32.le_iff_toInt_le.mp h1
    rw [nI_toInt hl] at e1
    refine ⟨x.toInt.toNat, by omega, by omega, ?_⟩
    apply Int32.toInt_inj.mp
    rw [nI_toInt (by omega)]
    omega
theorem within_in {x a b : Int32} {Q : Int32 → Prop} (lo hi j : Nat) (h1 : lo ≤ j) (h2 : j ≤ hi) (h : Q 1) (hx : x = nI j := by rfl) (ha : a = nI lo := by rfl) (hb : b = nI hi := by rfl) (hh : hi < 2 ^ 31 := by omega) : w_X6_within x a b Q := by
  subst hx; subst ha; subst hb
  rw [w_X6_within]
  refine pk_lt j lo (fun z => absurd z (by omega)) (fun _ => pk_lt hi j (fun z => absurd z (by omega)) (fun _ => h))
theorem within_out {x a b : Int32} {Q : Int32 → Prop} (h : x < a ∨ b < x) (q : Q 0) : w_X6_within x a b Q := by
  rw [w_X6_within]
  exact ⟨fun _ => q, fun h1 => ⟨fun _ => q, fun h2 => (h.elim h1 h2).elim⟩⟩
theorem in_in {x a b : Int32} {Q : Int32 → Prop} (lo hi j : Nat) (h1 : lo ≤ j) (h2 : j ≤ hi) (h : Q 1) (hx : x = nI j := by rfl) (ha : a = nI lo := by rfl) (hb : b = nI hi := by rfl) (hh : hi < 2 ^ 31 := by omega) : w_X7_in x a b Q := by
  subst hx; subst ha; subst hb
  rw [w_X7_in]
  refine pk_lt j lo (fun z => absurd z (by omega)) (fun _ => pk_lt hi j (fun z => absurd z (by omega)) (fun _ => h))
theorem in_out {x a b : Int32} {Q : Int32 → Prop} (h : x < a ∨ b < x) (q : Q 0) : w_X7_in x a b Q := by
  rw [w_X7_in]
  exact ⟨fun _ => q, fun h1 => ⟨fun _ => q, fun h2 => (h.elim h1 h2).elim⟩⟩
theorem nI_m1 (n : Nat) (h : 0 < n) : nI n - 1 = nI (n - 1) := by
  have e : (1 : Int32) = nI 1 := rfl
  rw [e, pk_sub (by omega)]
theorem vin {i N : Nat} (h : i < N) (hN : N < 2 ^ 31 := by omega) : vp_in (nI i) N := vp_in_nI h hN
def anyB (p : Nat → Bool) : Nat → Bool
  | 0 => false
  | n + 1 => anyB p n || p n
theorem anyB_t {p : Nat → Bool} : ∀ {n k : Nat}, k < n → p k = true → anyB p n = true
  | 0, k, h, _ => absurd h (Nat.not_lt_zero k)
  | n + 1, k, h, hp => by
    rw [anyB]
    by_cases hk : k = n
    · subst hk; rw [hp]; simp
    · rw [anyB_t (show k < n by omega) hp]; simp
theorem anyB_f {p : Nat → Bool} : ∀ {n : Nat}, (∀ k, k < n → p k = false) → anyB p n = false
  | 0, _ => rfl
  | n + 1, h => by rw [anyB, anyB_f (fun k hk => h k (by omega)), h n (by omega)]; rfl
theorem anyB_ex {p : Nat → Bool} : ∀ {n : Nat}, anyB p n = true → ∃ k, k < n ∧ p k = true
  | 0, h => by cases h
  | n + 1, h => by
    rw [anyB, Bool.or_eq_true] at h
    rcases h with h | h
    · obtain ⟨k, h1, h2⟩ := anyB_ex h
      exact ⟨k, by omega, h2⟩
    · exact ⟨n, by omega, h⟩
def sm (f : Nat → Nat) : Nat → Nat
  | 0 => 0
  | n + 1 => sm f n + f n
theorem sm_cong {f g : Nat → Nat} : ∀ {n : Nat}, (∀ k, k < n → f k = g k) → sm f n = sm g n
  | 0, _ => rfl
  | n + 1, h => by rw [sm, sm, sm_cong (fun k hk => h k (by omega)), h n (by omega)]
theorem sm_cut {f g : Nat → Nat} : ∀ {n m : Nat}, m ≤ n → (∀ k, k < m → f k = g k) → (∀ k, m ≤ k → k < n → g k = 0) → sm f m = sm g n
  | 0, m, h, _, _ => by obtain rfl : m = 0 := by omega
                        rfl
  | n + 1, m, h, h1, h2 => by
    by_cases hm : m = n + 1
    · subst hm; exact sm_cong h1
    · rw [sm, h2 n (by omega) (by omega), Nat.add_zero]
      exact sm_cut (by omega) h1 (fun k a b => h2 k a (by omega))
theorem sm_le {f : Nat → Nat} {c : Nat} : ∀ {n : Nat}, (∀ k, k < n → f k ≤ c) → sm f n ≤ n * c
  | 0, _ => Nat.zero_le _
  | n + 1, h => by
    have h1 := sm_le (n := n) (fun k hk => h k (by omega))
    have h2 := h n (by omega)
    rw [sm, Nat.succ_mul]
    omega
theorem sm_mul (f : Nat → Nat) (c : Nat) : ∀ n, sm (fun k => f k * c) n = sm f n * c
  | 0 => by rw [sm, sm, Nat.zero_mul]
  | n + 1 => by rw [sm, sm, sm_mul f c n, Nat.add_mul]
theorem sm_mulL (f : Nat → Nat) (c : Nat) : ∀ n, sm (fun k => c * f k) n = c * sm f n
  | 0 => by rw [sm, sm, Nat.mul_zero]
  | n + 1 => by rw [sm, sm, sm_mulL f c n, Nat.mul_add]
theorem sm_add (f g : Nat → Nat) : ∀ n, sm (fun k => f k + g k) n = sm f n + sm g n
  | 0 => rfl
  | n + 1 => by rw [sm, sm, sm, sm_add f g n]; omega
theorem sm_0 : ∀ n, sm (fun _ => 0) n = 0
  | 0 => rfl
  | n + 1 => by rw [sm, sm_0 n]
theorem sm_zero {f : Nat → Nat} {n : Nat} (h : ∀ k, k < n → f k = 0) : sm f n = 0 := by rw [sm_cong h, sm_0]
theorem sm_split (f : Nat → Nat) (m : Nat) : ∀ n, sm f (m + n) = sm f m + sm (fun k => f (m + k)) n
  | 0 => rfl
  | n + 1 => by rw [← Nat.add_assoc, sm, sm_split f m n, sm]; omega
theorem sm_swap (f : Nat → Nat → Nat) (m : Nat) : ∀ n, sm (fun i => sm (fun j => f i j) m) n = sm (fun j => sm (fun i => f i j) n) m
  | 0 => by rw [sm]; exact (sm_zero (fun k _ => rfl)).symm
  | n + 1 => by
    rw [sm, sm_swap f m n, ← sm_add]
    rfl
theorem sm_part {f : Nat → Nat} : ∀ {n i : Nat}, i < n → f i ≤ sm f n
  | 0, i, h => absurd h (Nat.not_lt_zero i)
  | n + 1, i, h => by
    rw [sm]
    by_cases hi : i = n
    · subst hi; omega
    · have := sm_part (f := f) (show i < n by omega)
      omega
theorem sm_mono {f g : Nat → Nat} : ∀ {n : Nat}, (∀ k, k < n → f k ≤ g k) → sm f n ≤ sm g n
  | 0, _ => Nat.le_refl _
  | n + 1, h => by
    have h1 := sm_mono (n := n) (fun k hk => h k (by omega))
    have h2 := h n (by omega)
    rw [sm, sm]
    omega
theorem sm_pos {f : Nat → Nat} {n : Nat} (h : 0 < sm f n) : ∃ k, k < n ∧ 0 < f k := by
  by_cases hh : ∃ k, k < n ∧ 0 < f k
  · exact hh
  · exfalso
    have := sm_zero (f := f) (n := n) (fun k hk => by
      by_cases hz : f k = 0
      · exact hz
      · exact absurd ⟨k, hk, by omega⟩ hh)
    omega
/-- what was told, as numbers: 0 bars, 1 people, 2 paints, 3 items, 4.. metals, 10.. grips, 13.. rains, 23.. which, 31.. when, 39.. lasts -/
def RAILv (c0 c1 c2 : Int32) (m g r pb py pl told : Nat → Int32) (T : Nat → Nat) : Prop :=
  (T 0 ≤ 6 ∧ T 1 ≤ 3 ∧ T 2 ≤ 8) ∧ (c0 = nI (T 0) ∧ c1 = nI (T 1) ∧ c2 = nI (T 2)) ∧ (∀ j, j < 47 → told j = nI (T j)) ∧ (∀ j, j < T 0 → m j = nI (T (4 + j)) ∧ 1 ≤ T (4 + j) ∧ T (4 + j) ≤ 3) ∧ (∀ j, j < T 1 → g j = nI (T (10 + j)) ∧ 1 ≤ T (10 + j) ∧ T (10 + j) ≤ 9) ∧ (∀ j, j < 10 → r j = nI (T (13 + j)) ∧ T (13 + j) ≤ 3) ∧ ∀ k, k < T 2 → (pb k = nI (T (23 + k)) ∧ T (23 + k) < T 0) ∧ (py k = nI (T (31 + k)) ∧ T (31 + k) ≤ 9) ∧ (pl k = nI (T (39 + k)) ∧ 1 ≤ T (39 + k) ∧ T (39 + k) ≤ 5)
def enc (z : Nat) : Int32 := if z = 0 then -9 else nI (z - 1)
/-- the holds as numbers X (0 how many, 1.. who, 13.. what, 25.. from, 37.. years), what was seen as Z (0 nothing, else one more) -/
def NOWv (T X Z : Nat → Nat) (c : Int32) (p b f n s ss : Nat → Int32) (off : Nat) : Prop :=
  X 0 ≤ 12 ∧ c = nI (X 0) ∧ (∀ i, i < 49 → ss (off + i) = nI (X i)) ∧ (∀ k, k < 12 → p k = nI (X (1 + k)) ∧ b k = nI (X (13 + k)) ∧ f k = nI (X (25 + k)) ∧ n k = nI (X (37 + k))) ∧ (∀ k, k < X 0 → X (1 + k) < T 1 ∧ X (13 + k) < T 0 ∧ X (25 + k) ≤ 9 ∧ 1 ≤ X (37 + k) ∧ X (25 + k) + X (37 + k) ≤ 10) ∧ (∀ j, j < 6 → s j = enc (Z j) ∧ ss (off + 49 + j) = enc (Z j) ∧ Z j ≤ 1000) ∧ ∀ j, T 0 ≤ j → j < 6 → Z j = 0
def TEXTv (n : Nat) (c : Int32) (by8 : Nat → Int32) (t : Int32) (tx : Nat → Int32) : Prop := n ≤ 300 ∧ c = nI n ∧ t = nI n ∧ ∀ j, j < n → ∃ u : Nat, u < 256 ∧ tx j = nI u ∧ by8 j = (nI u).toInt8.toInt32
def IMGv (T : Nat → Nat) (k1 k2 : Int32) (c : Int32) (p b f n s ss : Nat → Int32) (off : Nat) : Prop := (k1 = 0 ∧ k2 = 0) ∨ (k1 = 1 ∧ k2 = 1 ∧ ∃ X Z : Nat → Nat, NOWv T X Z c p b f n s ss off)
def RAIL (S : St) (T : Nat → Nat) : Prop := RAILv (S.1 1200 0) (S.1 1201 0) (S.1 1202 0) (S.1 12) (S.1 13) (S.1 14) (S.1 15) (S.1 16) (S.1 17) (S.1 51) T
def NOW (S : St) (T X Z : Nat → Nat) : Prop := NOWv T X Z (S.1 1900 0) (S.1 19) (S.1 20) (S.1 21) (S.1 22) (S.1 23) (S.1 53) 0
def TEXT (S : St) (n : Nat) : Prop := TEXTv n (S.1 301 0) (S.1 3) (S.1 5002 0) (S.1 50)
def IMG0 (S : St) (T : Nat → Nat) : Prop := IMGv T (S.1 37 0) (S.1 55 0) (S.1 2600 0) (S.1 26) (S.1 27) (S.1 28) (S.1 29) (S.1 30) (S.1 54) 0
def IMG1 (S : St) (T : Nat → Nat) : Prop := IMGv T (S.1 37 1) (S.1 55 1) (S.1 3200 0) (S.1 32) (S.1 33) (S.1 34) (S.1 35) (S.1 36) (S.1 54) 55
def INV (S : St) : Prop := ∃ (T X Z : Nat → Nat) (n : Nat), RAIL S T ∧ NOW S T X Z ∧ TEXT S n ∧ IMG0 S T ∧ IMG1 S T ∧ S.2 0 = S.2 1
/-- the components that may differ -/
def FR (L : List Nat) (S S2 : St) : Prop := (∀ c, c ∉ L → S2.1 c = S.1 c) ∧ S2.2 = S.2
theorem FR.rf {L : List Nat} {S : St} : FR L S S := ⟨fun _ _ => rfl, rfl⟩
theorem FR.tr {L : List Nat} {S S2 S3 : St} (h : FR L S S2) (h2 : FR L S2 S3) : FR L S S3 := ⟨fun c hc => (h2.1 c hc).trans (h.1 c hc), h2.2.trans h.2⟩
theorem FR.set {L : List Nat} {S S2 : St} (h : FR L S S2) {c : Nat} {f : Nat → Int32} (hc : c ∈ L) : FR L S (setA S2 c f) := ⟨fun k hk => by
  have : k ≠ c := fun z => hk (z ▸ hc)
  show (if k = c then f else S2.1 k) = S.1 k
  rw [if_neg this]
  exact h.1 k hk, h.2⟩
theorem FR.mono {L L2 : List Nat} {S S2 : St} (h : FR L S S2) (hL : ∀ c, c ∈ L → c ∈ L2) : FR L2 S S2 := ⟨fun c hc => h.1 c (fun z => hc (hL c z)), h.2⟩
theorem setA_s (S : St) (c : Nat) (f : Nat → Int32) : (setA S c f).1 c = f := by simp [setA]
theorem setA_n {S : St} {c k : Nat} {f : Nat → Int32} (h : k ≠ c) : (setA S c f).1 k = S.1 k := by simp [setA, h]
def scr : List Nat := [39, 40, 41, 42, 43, 44, 45, 47, 48, 56, 57, 58, 59, 60, 61, 3900, 3901, 4700, 5015]
theorem INV.frame {S S2 : St} (h : INV S) (hF : FR scr S S2) : INV S2 := by
  obtain ⟨T, X, Z, n, h1, h2, h3, h4, h5, h6⟩ := h
  have e : ∀ c, c ∉ scr → S2.1 c = S.1 c := hF.1
  refine ⟨T, X, Z, n, ?_, ?_, ?_, ?_, ?_, ?_⟩
  · unfold RAIL at h1 ⊢
    rw [e 1200 (by decide), e 1201 (by decide), e 1202 (by decide), e 12 (by decide), e 13 (by decide), e 14 (by decide), e 15 (by decide), e 16 (by decide), e 17 (by decide), e 51 (by decide)]
    exact h1
  · unfold NOW at h2 ⊢
    rw [e 1900 (by decide), e 19 (by decide), e 20 (by decide), e 21 (by decide), e 22 (by decide), e 23 (by decide), e 53 (by decide)]
    exact h2
  · unfold TEXT at h3 ⊢
    rw [e 301 (by decide), e 3 (by decide), e 5002 (by decide), e 50 (by decide)]
    exact h3
  · unfold IMG0 at h4 ⊢
    rw [e 37 (by decide), e 55 (by decide), e 2600 (by decide), e 26 (by decide), e 27 (by decide), e 28 (by decide), e 29 (by decide), e 30 (by decide), e 54 (by decide)]
    exact h4
  · unfold IMG1 at h5 ⊢
    rw [e 37 (by decide), e 55 (by decide), e 3200 (by decide), e 32 (by decide), e 33 (by decide), e 34 (by decide), e 35 (by decide), e 36 (by decide), e 54 (by decide)]
    exact h5
  · rw [hF.2]
    exact h6
