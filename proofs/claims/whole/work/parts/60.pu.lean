/-! swaps, the model's side: rows as numbers, the bit mask of a row. -/
def dg (n : Nat) : Nat → Nat → List Nat
  | 0, _ => []
  | k + 1, c => c % n :: dg n k (c / n)
theorem dg_len (n : Nat) : ∀ k c, (dg n k c).length = k
  | 0, c => rfl
  | k + 1, c => by rw [dg, List.length_cons, dg_len n k]
theorem dg_lt {n : Nat} (hn : 0 < n) : ∀ k c d, d ∈ dg n k c → d < n
  | 0, c, d, h => by cases h
  | k + 1, c, d, h => by
    rw [dg] at h
    rcases List.mem_cons.mp h with e | e
    · rw [e]
      exact Nat.mod_lt _ hn
    · exact dg_lt hn k (c / n) d e
theorem dg_surj {n : Nat} (hn : 0 < n) : ∀ l : List Nat, (∀ d, d ∈ l → d < n) → ∃ c, c < n ^ l.length ∧ dg n l.length c = l
  | [], _ => ⟨0, Nat.one_pos, rfl⟩
  | d :: l, h => by
    obtain ⟨c, hc, e⟩ := dg_surj hn l (fun x hx => h x (List.mem_cons_of_mem _ hx))
    have hd := h d List.mem_cons_self
    have e1 : (c * n + d) % n = d := by rw [Nat.add_comm, Nat.add_mul_mod_self_right, Nat.mod_eq_of_lt hd]
    have e2 : (c * n + d) / n = c := by rw [Nat.add_comm, Nat.add_mul_div_right _ _ hn, Nat.div_eq_of_lt hd, Nat.zero_add]
    refine ⟨c * n + d, ?_, ?_⟩
    · rw [List.length_cons, Nat.pow_succ]
      have : (c + 1) * n ≤ n ^ l.length * n := Nat.mul_le_mul_right n hc
      rw [Nat.succ_mul] at this
      omega
    · rw [List.length_cons, dg, e1, e2, e]
/-- pigeons: who holds all of them, and no more, holds each but once -/
theorem pigeon : ∀ (n : Nat) (l : List Nat), (∀ d, d < n → d ∈ l) → n ≤ l.length ∧ (l.length = n → l.Nodup)
  | 0, l, _ => ⟨Nat.zero_le _, fun h => by
    rw [List.length_eq_zero_iff.mp h]
    exact List.nodup_nil⟩
  | n + 1, l, h => by
    have hm : n ∈ l := h n (by omega)
    have he : ∀ d, d < n → d ∈ l.erase n := fun d hd => (List.mem_erase_of_ne (by omega)).mpr (h d (by omega))
    obtain ⟨h1, h2⟩ := pigeon n (l.erase n) he
    have hl : (l.erase n).length = l.length - 1 := List.length_erase_of_mem hm
    have hpos : 0 < l.length := List.length_pos_of_mem hm
    refine ⟨by omega, fun q => ?_⟩
    have hp := List.perm_cons_erase hm
    rw [hp.nodup_iff]
    refine List.nodup_cons.mpr ⟨fun z => ?_, h2 (by omega)⟩
    have h3 := (pigeon n ((l.erase n).erase n) (fun d hd => (List.mem_erase_of_ne (by omega)).mpr (he d hd))).1
    have h4 : ((l.erase n).erase n).length = (l.erase n).length - 1 := List.length_erase_of_mem z
    have h5 : 0 < (l.erase n).length := List.length_pos_of_mem z
    omega
theorem pigeon2 : ∀ (n : Nat) (l : List Nat), l.Nodup → (∀ d, d ∈ l → d < n) → l.length ≤ n ∧ (l.length = n → ∀ d, d < n → d ∈ l)
  | 0, l, _, h => by
    have e : l.length = 0 := by
      by_cases z : l.length = 0
      · exact z
      · have := h _ (List.getElem_mem (l := l) (n := 0) (by omega))
        omega
    exact ⟨by omega, fun _ d hd => absurd hd (Nat.not_lt_zero d)⟩
  | n + 1, l, hn, h => by
    by_cases hm : n ∈ l
    · have hp := List.perm_cons_erase hm
      have hn2 := List.nodup_cons.mp (hp.nodup_iff.mp hn)
      have he : ∀ d, d ∈ l.erase n → d < n := fun d hd => by
        have h1 := h d (List.mem_of_mem_erase hd)
        have h2 : d ≠ n := fun z => hn2.1 (z ▸ hd)
        omega
      obtain ⟨h1, h2⟩ := pigeon2 n (l.erase n) hn2.2 he
      have hl : (l.erase n).length = l.length - 1 := List.length_erase_of_mem hm
      have hpos : 0 < l.length := List.length_pos_of_mem hm
      refine ⟨by omega, fun q d hd => ?_⟩
      by_cases c : d = n
      · rw [c]
        exact hm
      · exact List.mem_of_mem_erase (h2 (by omega) d (by omega))
    · have he : ∀ d, d ∈ l → d < n := fun d hd => by
        have h1 := h d hd
        have h2 : d ≠ n := fun z => hm (z ▸ hd)
        omega
      have := (pigeon2 n l hn he).1
      exact ⟨by omega, fun q => absurd q (by omega)⟩
def mkM (l : List Nat) : Nat → Nat
  | 0 => 0
  | k + 1 => mkM l k ||| 2 ^ ali l k
theorem mkM_bit (l : List Nat) (d : Nat) : ∀ k, (mkM l k).testBit d = true ↔ ∃ i, i < k ∧ ali l i = d
  | 0 => by
    rw [mkM]
    constructor
    · intro q
      rw [Nat.zero_testBit] at q
      cases q
    · rintro ⟨i, hi, _⟩
      omega
  | k + 1 => by
    rw [mkM, Nat.testBit_or, Bool.or_eq_true, mkM_bit l d k, Nat.testBit_two_pow, decide_eq_true_eq]
    constructor
    · rintro (⟨i, hi, e⟩ | e)
      · exact ⟨i, by omega, e⟩
      · exact ⟨k, by omega, e⟩
    · rintro ⟨i, hi, e⟩
      by_cases c : i = k
      · rw [c] at e
        exact Or.inr e
      · exact Or.inl ⟨i, by omega, e⟩
theorem mkM_full {n : Nat} {l : List Nat} (hl : l.length = n) (hd : ∀ d, d ∈ l → d < n) : mkM l n = 2 ^ n - 1 ↔ OrdP n l := by
  constructor
  · intro q
    refine ⟨hl, hd, (pigeon n l (fun d h => ?_)).2 hl⟩
    have h1 : (mkM l n).testBit d = true := by
      rw [q, Nat.testBit_two_pow_sub_one]
      exact decide_eq_true h
    obtain ⟨i, hi, e⟩ := (mkM_bit l d n).mp h1
    rw [← e]
    exact ali_mem (by omega)
  · intro q
    apply Nat.eq_of_testBit_eq
    intro d
    rw [Nat.testBit_two_pow_sub_one]
    by_cases h : d < n
    · rw [decide_eq_true h, mkM_bit]
      have hm := (pigeon2 n l q.2.2 hd).2 hl d h
      obtain ⟨i, hi, e⟩ := List.getElem_of_mem hm
      exact ⟨i, by omega, (ali_get hi).trans e⟩
    · rw [decide_eq_false h]
      cases z : (mkM l n).testBit d with
      | false => rfl
      | true =>
        obtain ⟨i, hi, e⟩ := (mkM_bit l d n).mp z
        have := hd _ (ali_mem (l := l) (k := i) (by omega))
        omega
theorem or_nI : ∀ a, a < 64 → ∀ b, b < 6 → nI a ||| ((1 : Int32) <<< (nI b &&& 31)) = nI (a ||| 2 ^ b) ∧ a ||| 2 ^ b < 64 := by decide +kernel
/-- bars not yet gone through -/
def unb (done : Nat) : Nat := sm (fun b => if done.testBit b = true then 0 else 1) 6
theorem unb_or {done q : Nat} (hq : q < 6) (h : ¬ done.testBit q = true) : unb (done ||| 2 ^ q) + 1 = unb done := by
  unfold unb
  rw [sm_pick (fun b => if done.testBit b = true then 0 else 1) hq, sm_pick (fun b => if (done ||| 2 ^ q).testBit b = true then 0 else 1) hq]
  have e1 : (if done.testBit q = true then 0 else 1) = 1 := if_neg h
  have e2 : (if (done ||| 2 ^ q).testBit q = true then 0 else 1) = 0 := if_pos (by rw [Nat.testBit_or, Nat.testBit_two_pow, decide_eq_true rfl, Bool.or_true])
  rw [e1, e2]
  have e3 : sm (fun i => if i = q then 0 else if (done ||| 2 ^ q).testBit i = true then 0 else 1) 6 = sm (fun i => if i = q then 0 else if done.testBit i = true then 0 else 1) 6 := by
    refine sm_cong (fun i _ => ?_)
    by_cases c : i = q
    · rw [if_pos c, if_pos c]
    · rw [if_neg c, if_neg c, Nat.testBit_or, Nat.testBit_two_pow, decide_eq_false (fun z => c z.symm), Bool.or_false]
  rw [e3]
  omega
theorem unb_le (done : Nat) : unb done ≤ 6 := by
  have := sm_le (f := fun b => if done.testBit b = true then 0 else 1) (c := 1) (n := 6) (fun k _ => by
    show (if done.testBit k = true then 0 else 1) ≤ 1
    split <;> omega)
  exact this
theorem bit_nI : ∀ a, a < 64 → ∀ b, b < 6 → (((nI a >>> (nI b &&& 31)) &&& 1) = 0 ↔ ¬ a.testBit b = true) := by decide +kernel
/-- the model's row -/
def ROW (S : St) (n : Nat) (l : List Nat) : Prop := l.length = n ∧ ∀ k, k < n → S.1 61 k = nI (ali l k) ∧ ali l k < n
theorem mark_loop {S : St} {n : Nat} {l : List Nat} (hn : n ≤ 6) (hRow : ROW S n l) {x y z : Int32} {kx : Int32 → Prop} : ∀ (f done q : Nat), q < n → done < 64 → unb done < f → (markP l f done q < 64 → kx (nI (markP l f done q))) → X7_exchanges_L34 S x y z kx f (nI done) (nI q)
  | 0, done, q, hq, hd, hu, h => absurd hu (Nat.not_lt_zero _)
  | f + 1, done, q, hq, hd, hu, h => by
    rw [markP] at h
    rw [X7_exchanges_L34]
    by_cases c : done.testBit q = true
    · rw [if_pos c] at h
      exact nb_t (fun z => (bit_nI done hd q (by omega)).mp z c) (h hd)
    · rw [if_neg c] at h
      refine nb_f ((bit_nI done hd q (by omega)).mpr c) ?_
      obtain ⟨o1, o2⟩ := or_nI done hd q (by omega)
      rw [o1]
      rintro _ rfl
      refine ⟨vin (by omega), ?_⟩
      rintro _ rfl
      have hr := hRow.2 q hq
      rw [nI_clamp (by omega), hr.1]
      have hu2 := unb_or (show q < 6 by omega) c
      exact mark_loop hn hRow f _ _ hr.2 o2 (by omega) h
theorem markP_lt {l : List Nat} {n : Nat} (hn : n ≤ 6) (hl : ∀ k, k < n → ali l k < n) : ∀ (f done q : Nat), q < n → done < 64 → markP l f done q < 64
  | 0, done, q, hq, hd => hd
  | f + 1, done, q, hq, hd => by
    rw [markP]
    split
    · exact hd
    · exact markP_lt hn hl f _ _ (hl q hq) (or_nI done hd q (by omega)).2
theorem rnd_loop {S : St} {n : Nat} {l : List Nat} (hn : n ≤ 6) (hRow : ROW S n l) {kx : Int32 → Prop} (h : kx (nI (rndP l n).2)) : ∀ (j k : Nat), k + j = n → (rndP l k).1 < 64 → X7_exchanges_L7 S (nI n) kx (j + 1) (nI (rndP l k).1) (nI (rndP l k).2) (nI k)
  | 0, k, hk, hd => by
    obtain rfl : k = n := by omega
    rw [X7_exchanges_L7]
    exact pk_le k k (fun _ => h) (fun c => absurd c (by omega)) rfl rfl
  | j + 1, k, hk, hd => by
    have hm := markP_lt (l := l) hn (fun i hi => (hRow.2 i hi).2) 7 (rndP l k).1 k (by omega) hd
    have hu := unb_le (rndP l k).1
    have ih := rnd_loop hn hRow h j (k + 1) (by omega) hm
    rw [X7_exchanges_L7]
    refine pk_le n k (fun c => absurd c (by omega)) (fun _ => nm_e ?_) rfl rfl
    have go : ∀ x : Int32, nI (rndP l k).2 + x = nI (rndP l (k + 1)).2 → ∀ x8 : Int32, x8 = nI (rndP l k).2 + x → (∃ m : Nat, X7_exchanges_L34 S (nI n) x8 (nI k) (fun (v18) => ∀ x19 : Int32, x19 = nI k + (1 : Int32) → X7_exchanges_L7 S (nI n) kx (j + 1) v18 x8 x19) m (nI (rndP l k).1) (nI k)) := by
      intro x hx x8 h8
      rw [hx] at h8
      subst h8
      refine ⟨7, mark_loop hn hRow 7 (rndP l k).1 k (by omega) hd (by omega) (fun _ => ?_)⟩
      rintro _ rfl
      rw [nI_1]
      exact ih
    have e : (rndP l (k + 1)).2 = (rndP l k).2 + if (rndP l k).1.testBit k = true then 0 else 1 := rfl
    by_cases c : (rndP l k).1.testBit k = true
    · rw [if_pos c] at e
      refine nb_t (fun z => (bit_nI _ hd k (by omega)).mp z c) (go 0 ?_)
      rw [add_z, e]
      rfl
    · rw [if_neg c] at e
      refine nb_f ((bit_nI _ hd k (by omega)).mpr c) (go 1 ?_)
      rw [nI_1, e]
theorem rnd_le (l : List Nat) : ∀ k, (rndP l k).2 ≤ k
  | 0 => Nat.le_refl 0
  | k + 1 => by
    have := rnd_le l k
    have e : (rndP l (k + 1)).2 = (rndP l k).2 + if (rndP l k).1.testBit k = true then 0 else 1 := rfl
    rw [e]
    split <;> omega
theorem exchanges_ok {S : St} {n : Nat} {l : List Nat} (hn : n ≤ 6) (hRow : ROW S n l) {Q : Int32 → Prop} (h : Q (nI (dN n l))) : w_X7_exchanges S (nI n) Q := by
  unfold w_X7_exchanges
  refine ⟨n + 1, rnd_loop hn hRow ?_ n 0 (by omega) (show (0 : Nat) < 64 by decide)⟩
  have := rnd_le l n
  rw [pk_sub this]
  exact h
