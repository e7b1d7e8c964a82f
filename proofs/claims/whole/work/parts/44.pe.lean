/-! Counting ways: over persons, or over bars. -/
/-- whether a bar's total will do; what a winter leaves; the weight of holding none, of a winter -/
abbrev WK : Type := (Nat → Nat → Nat) × (Nat → Nat → Nat → Nat) × (Nat → Nat) × (Nat → Nat → Nat → Nat)
def addc (c : Nat → Nat) (b x : Nat) : Nat → Nat := fun i => if i = b then c i + x else c i
def pd (f : Nat → Nat) : Nat → Nat
  | 0 => 1
  | n + 1 => pd f n * f n
theorem pd_cong {f g : Nat → Nat} : ∀ {n : Nat}, (∀ k, k < n → f k = g k) → pd f n = pd g n
  | 0, _ => rfl
  | n + 1, h => by rw [pd, pd, pd_cong (fun k hk => h k (by omega)), h n (by omega)]
def Wq (k : WK) (act : Nat → Bool) (m : Nat) : List Nat → (Nat → Nat) → Nat
  | [], c => pd (fun b => if act b = true then k.1 b (c b) else 1) m
  | p :: L, c => k.2.2.1 p * Wq k act m L c + sm (fun b => if act b = true then sm (fun w => k.2.2.2 p b w * Wq k act m L (addc c b (k.2.1 p b w))) 10 else 0) m
def Fq (k : WK) (b : Nat) : List Nat → Nat → Nat
  | [], x => k.1 b x
  | p :: L, x => sm (fun w => k.2.2.2 p b w * Fq k b L (x + k.2.1 p b w)) 10
def SP : (List Nat → List Nat → Nat) → List Nat → Nat
  | f, [] => f [] []
  | f, p :: L => SP (fun a r => f a (p :: r)) L + SP (fun a r => f (p :: a) r) L
theorem SP_cong {f g : List Nat → List Nat → Nat} (h : ∀ a r, f a r = g a r) (L : List Nat) : SP f L = SP g L := by
  have : f = g := funext fun a => funext fun r => h a r
  rw [this]
theorem SP_add : ∀ (L : List Nat) (f g : List Nat → List Nat → Nat), SP (fun a r => f a r + g a r) L = SP f L + SP g L
  | [], f, g => rfl
  | p :: L, f, g => by
    rw [SP, SP, SP, SP_add L (fun a r => f a (p :: r)) (fun a r => g a (p :: r)), SP_add L (fun a r => f (p :: a) r) (fun a r => g (p :: a) r)]
    omega
theorem SP_mulL (x : Nat) : ∀ (L : List Nat) (f : List Nat → List Nat → Nat), SP (fun a r => x * f a r) L = x * SP f L
  | [], f => rfl
  | p :: L, f => by
    rw [SP, SP, SP_mulL x L (fun a r => f a (p :: r)), SP_mulL x L (fun a r => f (p :: a) r), Nat.mul_add]
theorem SP_0 : ∀ (L : List Nat), SP (fun _ _ => 0) L = 0
  | [] => rfl
  | p :: L => by rw [SP, SP_0 L]
theorem SP_sm (f : Nat → List Nat → List Nat → Nat) (L : List Nat) : ∀ n, sm (fun i => SP (f i) L) n = SP (fun a r => sm (fun i => f i a r) n) L
  | 0 => by
    rw [sm]
    exact (SP_0 L).symm
  | n + 1 => by
    rw [sm, SP_sm f L n, ← SP_add]
    rfl
theorem SP3 : ∀ (L : List Nat) (f : List Nat → List Nat → List Nat → Nat), SP (fun a r => SP (fun x y => f x y r) a) L = SP (fun x s => SP (fun y r => f x y r) s) L
  | [], f => rfl
  | p :: L, f => by
    have h1 : SP (fun a r => SP (fun x y => f x y r) a) (p :: L) = SP (fun a r => SP (fun x y => f x y (p :: r)) a) L + SP (fun a r => SP (fun x y => f x (p :: y) r) a + SP (fun x y => f (p :: x) y r) a) L := rfl
    have h2 : SP (fun x s => SP (fun y r => f x y r) s) (p :: L) = SP (fun x s => SP (fun y r => f x y (p :: r)) s + SP (fun y r => f x (p :: y) r) s) L + SP (fun x s => SP (fun y r => f (p :: x) y r) s) L := rfl
    have a1 : SP (fun a r => SP (fun x y => f x y (p :: r)) a) L = SP (fun x s => SP (fun y r => f x y (p :: r)) s) L := SP3 L (fun x y r => f x y (p :: r))
    have a2 : SP (fun a r => SP (fun x y => f x (p :: y) r) a) L = SP (fun x s => SP (fun y r => f x (p :: y) r) s) L := SP3 L (fun x y r => f x (p :: y) r)
    have a3 : SP (fun a r => SP (fun x y => f (p :: x) y r) a) L = SP (fun x s => SP (fun y r => f (p :: x) y r) s) L := SP3 L (fun x y r => f (p :: x) y r)
    have b1 := SP_add L (fun a r => SP (fun x y => f x (p :: y) r) a) (fun a r => SP (fun x y => f (p :: x) y r) a)
    have b2 := SP_add L (fun x s => SP (fun y r => f x y (p :: r)) s) (fun x s => SP (fun y r => f x (p :: y) r) s)
    rw [h1, h2, b1, b2, a1, a2, a3]
    omega
def off (act : Nat → Bool) (b : Nat) : Nat → Bool := fun i => if i = b then false else act i
theorem sm_pick (g : Nat → Nat) {b : Nat} : ∀ {m : Nat}, b < m → sm g m = g b + sm (fun i => if i = b then 0 else g i) m
  | 0, h => absurd h (Nat.not_lt_zero b)
  | m + 1, h => by
    rw [sm, sm]
    by_cases c : m = b
    · subst c
      rw [if_pos rfl, sm_cong (f := fun i => if i = m then 0 else g i) (g := g) (fun k hk => if_neg (by omega))]
      omega
    · rw [if_neg c, sm_pick g (show b < m by omega)]
      omega
theorem pd_pick (g : Nat → Nat) {b : Nat} : ∀ {m : Nat}, b < m → pd g m = g b * pd (fun i => if i = b then 1 else g i) m
  | 0, h => absurd h (Nat.not_lt_zero b)
  | m + 1, h => by
    rw [pd, pd]
    by_cases c : m = b
    · subst c
      rw [if_pos rfl, pd_cong (f := fun i => if i = m then 1 else g i) (g := g) (fun k hk => if_neg (by omega)), Nat.mul_one, Nat.mul_comm]
    · rw [if_neg c, pd_pick g (show b < m by omega), Nat.mul_assoc]
/-- what a bar that is left out holds is nothing to the count -/
theorem Wq_ind (k : WK) (act : Nat → Bool) (m : Nat) : ∀ (L : List Nat) (c c2 : Nat → Nat), (∀ b, b < m → act b = true → c b = c2 b) → Wq k act m L c = Wq k act m L c2
  | [], c, c2, h => by
    rw [Wq, Wq]
    refine pd_cong (fun b hb => ?_)
    by_cases a : act b = true
    · rw [if_pos a, if_pos a, h b hb a]
    · rw [if_neg a, if_neg a]
  | p :: L, c, c2, h => by
    rw [Wq, Wq, Wq_ind k act m L c c2 h]
    congr 1
    refine sm_cong (fun b hb => ?_)
    by_cases a : act b = true
    · rw [if_pos a, if_pos a]
      refine sm_cong (fun w _ => ?_)
      rw [Wq_ind k act m L (addc c b (k.2.1 p b w)) (addc c2 b (k.2.1 p b w)) (fun i hi ai => by
        unfold addc
        by_cases ib : i = b
        · rw [if_pos ib, if_pos ib, h i hi ai]
        · rw [if_neg ib, if_neg ib, h i hi ai])]
    · rw [if_neg a, if_neg a]
theorem Wq_act (k : WK) (act act2 : Nat → Bool) (m : Nat) (h : ∀ b, b < m → act b = act2 b) : ∀ (L : List Nat) (c : Nat → Nat), Wq k act m L c = Wq k act2 m L c
  | [], c => by
    rw [Wq, Wq]
    exact pd_cong (fun b hb => by rw [h b hb])
  | p :: L, c => by
    rw [Wq, Wq, Wq_act k act act2 m h L c]
    congr 1
    refine sm_cong (fun b hb => ?_)
    rw [h b hb]
    by_cases a : act2 b = true
    · rw [if_pos a, if_pos a]
      exact sm_cong (fun w _ => by rw [Wq_act k act act2 m h L])
    · rw [if_neg a, if_neg a]
theorem Wq_top (k : WK) (act : Nat → Bool) (m : Nat) (h : ¬ act m = true) : ∀ (L : List Nat) (c : Nat → Nat), Wq k act (m + 1) L c = Wq k act m L c
  | [], c => by rw [Wq, Wq, pd, if_neg h, Nat.mul_one]
  | p :: L, c => by
    rw [Wq, Wq, sm, if_neg h, Nat.add_zero, Wq_top k act m h L c]
    congr 1
    refine sm_cong (fun b hb => ?_)
    by_cases a : act b = true
    · rw [if_pos a, if_pos a]
      exact sm_cong (fun w _ => by rw [Wq_top k act m h L])
    · rw [if_neg a, if_neg a]
/-- one bar taken by itself: which persons held it, and the others on the other bars -/
theorem Wq_split (k : WK) (act : Nat → Bool) {m b : Nat} (hb : b < m) (ha : act b = true) : ∀ (L : List Nat) (c : Nat → Nat), Wq k act m L c = SP (fun a r => Fq k b a (c b) * Wq k (off act b) m r c) L
  | [], c => by
    show pd (fun b => if act b = true then k.1 b (c b) else 1) m = k.1 b (c b) * pd (fun i => if off act b i = true then k.1 i (c i) else 1) m
    rw [pd_pick _ hb, if_pos ha]
    congr 1
    refine pd_cong (fun i hi => ?_)
    unfold off
    by_cases ib : i = b
    · rw [if_pos ib, if_pos ib, if_neg (by decide)]
    · rw [if_neg ib, if_neg ib]
  | p :: L, c => by
    have t1 : k.2.2.1 p * Wq k act m L c = SP (fun a r => k.2.2.1 p * (Fq k b a (c b) * Wq k (off act b) m r c)) L := by
      rw [Wq_split k act hb ha L c, ← SP_mulL]
    have t3 : sm (fun w => k.2.2.2 p b w * Wq k act m L (addc c b (k.2.1 p b w))) 10 = SP (fun a r => Fq k b (p :: a) (c b) * Wq k (off act b) m r c) L := by
      have e : ∀ w, k.2.2.2 p b w * Wq k act m L (addc c b (k.2.1 p b w)) = SP (fun a r => k.2.2.2 p b w * (Fq k b a (c b + k.2.1 p b w) * Wq k (off act b) m r c)) L := by
        intro w
        rw [Wq_split k act hb ha L, ← SP_mulL]
        refine SP_cong (fun a r => ?_) L
        have e1 : addc c b (k.2.1 p b w) b = c b + k.2.1 p b w := by unfold addc; rw [if_pos rfl]
        rw [e1, Wq_ind k (off act b) m r (addc c b (k.2.1 p b w)) c (fun i hi ai => by
          unfold off at ai
          unfold addc
          by_cases ib : i = b
          · rw [if_pos ib] at ai
            exact absurd ai (by decide)
          · rw [if_neg ib])]
      rw [sm_cong (fun w _ => e w), SP_sm]
      refine SP_cong (fun a r => ?_) L
      rw [Fq, ← sm_mul]
      exact sm_cong (fun w _ => by rw [Nat.mul_assoc])
    have t2 : sm (fun i => if i = b then 0 else if act i = true then sm (fun w => k.2.2.2 p i w * Wq k act m L (addc c i (k.2.1 p i w))) 10 else 0) m = SP (fun a r => Fq k b a (c b) * sm (fun i => if off act b i = true then sm (fun w => k.2.2.2 p i w * Wq k (off act b) m r (addc c i (k.2.1 p i w))) 10 else 0) m) L := by
      have e : ∀ i, (if i = b then 0 else if act i = true then sm (fun w => k.2.2.2 p i w * Wq k act m L (addc c i (k.2.1 p i w))) 10 else 0) = SP (fun a r => Fq k b a (c b) * (if off act b i = true then sm (fun w => k.2.2.2 p i w * Wq k (off act b) m r (addc c i (k.2.1 p i w))) 10 else 0)) L := by
        intro i
        by_cases ib : i = b
        · have o : ¬ off act b i = true := by unfold off; rw [if_pos ib]; decide
          rw [if_pos ib]
          exact (SP_0 L).symm.trans (SP_cong (fun a r => by rw [if_neg o, Nat.mul_zero]) L)
        · by_cases ai : act i = true
          · have o : off act b i = true := by unfold off; rw [if_neg ib]; exact ai
            rw [if_neg ib, if_pos ai]
            have ew : ∀ w, k.2.2.2 p i w * Wq k act m L (addc c i (k.2.1 p i w)) = SP (fun a r => k.2.2.2 p i w * (Fq k b a (c b) * Wq k (off act b) m r (addc c i (k.2.1 p i w)))) L := by
              intro w
              have e1 : addc c i (k.2.1 p i w) b = c b := by unfold addc; rw [if_neg (fun q => ib q.symm)]
              rw [Wq_split k act hb ha L, ← SP_mulL, e1]
            rw [sm_cong (fun w _ => ew w), SP_sm]
            refine SP_cong (fun a r => ?_) L
            rw [if_pos o, ← sm_mulL]
            exact sm_cong (fun w _ => by rw [Nat.mul_left_comm])
          · have o : ¬ off act b i = true := by unfold off; rw [if_neg ib]; exact ai
            rw [if_neg ib, if_neg ai]
            exact (SP_0 L).symm.trans (SP_cong (fun a r => by rw [if_neg o, Nat.mul_zero]) L)
      rw [sm_cong (fun i _ => e i), SP_sm]
      refine SP_cong (fun a r => ?_) L
      rw [sm_mulL]
    rw [Wq, sm_pick _ hb, if_pos ha, t1, t2, t3]
    show _ = SP (fun a r => Fq k b a (c b) * Wq k (off act b) m (p :: r) c) L + SP (fun a r => Fq k b (p :: a) (c b) * Wq k (off act b) m r c) L
    have e4 : SP (fun a r => Fq k b a (c b) * Wq k (off act b) m (p :: r) c) L = SP (fun a r => k.2.2.1 p * (Fq k b a (c b) * Wq k (off act b) m r c)) L + SP (fun a r => Fq k b a (c b) * sm (fun i => if off act b i = true then sm (fun w => k.2.2.2 p i w * Wq k (off act b) m r (addc c i (k.2.1 p i w))) 10 else 0) m) L := by
      rw [← SP_add]
      refine SP_cong (fun a r => ?_) L
      rw [Wq, Nat.mul_add, Nat.mul_left_comm]
    rw [e4]
    omega
/-- the ways of just these persons on the bars ahead of m, each on one -/
def Gq (k : WK) (act : Nat → Bool) (c : Nat → Nat) : Nat → List Nat → Nat
  | 0, L => if L = [] then 1 else 0
  | m + 1, L => if act m = true then SP (fun a r => Fq k m a (c m) * Gq k act c m r) L else Gq k act c m L
theorem SP_nil : ∀ L : List Nat, SP (fun a _ => if a = [] then 1 else 0) L = 1
  | [] => rfl
  | p :: L => by
    rw [SP, SP_nil L, SP_cong (g := fun _ _ => 0) (fun a r => if_neg (by simp)), SP_0]
theorem Wq_0 (k : WK) (act : Nat → Bool) (h : ∀ p, k.2.2.1 p = 1) : ∀ (L : List Nat) (c : Nat → Nat), Wq k act 0 L c = 1
  | [], c => rfl
  | p :: L, c => by rw [Wq, Wq_0 k act h L c, h p, sm]
theorem Wq_G (k : WK) (act : Nat → Bool) (h : ∀ p, k.2.2.1 p = 1) (c : Nat → Nat) : ∀ (m : Nat) (L : List Nat), Wq k act m L c = SP (fun a _ => Gq k act c m a) L
  | 0, L => by
    rw [Wq_0 k act h L c]
    exact (SP_nil L).symm
  | m + 1, L => by
    by_cases a : act m = true
    · rw [Wq_split k act (Nat.lt_succ_self m) a L c]
      have e : ∀ r, Wq k (off act m) (m + 1) r c = SP (fun x _ => Gq k act c m x) r := by
        intro r
        rw [Wq_top k (off act m) m (by unfold off; rw [if_pos rfl]; decide) r c, Wq_act k (off act m) act m (fun b hb => by unfold off; rw [if_neg (by omega)]) r c]
        exact Wq_G k act h c m r
      have e2 : SP (fun a r => Fq k m a (c m) * Wq k (off act m) (m + 1) r c) L = SP (fun a s => SP (fun x _ => Fq k m a (c m) * Gq k act c m x) s) L := SP_cong (fun a r => by rw [e r, ← SP_mulL]) L
      rw [e2, ← SP3 L (fun a x _ => Fq k m a (c m) * Gq k act c m x)]
      refine SP_cong (fun t _ => ?_) L
      rw [Gq, if_pos a]
    · rw [Wq_top k act m a L c, Wq_G k act h c m L]
      refine SP_cong (fun t _ => ?_) L
      rw [Gq, if_neg a]
