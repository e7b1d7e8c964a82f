/-! Sets of people, as lists; the sums over them. -/
def lst (set : Nat) : Nat → Nat → List Nat
  | 0, _ => []
  | r + 1, p => if set.testBit p = true then p :: lst set r (p + 1) else lst set r (p + 1)
def ls (P set : Nat) : List Nat := lst set P 0
/-- all but a set -/
def co (P set : Nat) : Nat := 2 ^ P - 1 - set
theorem gs_0_0 (F g : List Nat → Nat) : sm (fun part => if part &&& (7 ^^^ 0) = 0 then F (ls 0 part) * g (ls 0 (0 ^^^ part)) else 0) (0 + 1) = SP (fun a r => F a * g r) (ls 0 0) := by
  show (0 + F [] * g []) = F [] * g []
  omega
theorem gs_1_0 (F g : List Nat → Nat) : sm (fun part => if part &&& (7 ^^^ 0) = 0 then F (ls 1 part) * g (ls 1 (0 ^^^ part)) else 0) (0 + 1) = SP (fun a r => F a * g r) (ls 1 0) := by
  show (0 + F [] * g []) = F [] * g []
  omega
theorem gs_1_1 (F g : List Nat → Nat) : sm (fun part => if part &&& (7 ^^^ 1) = 0 then F (ls 1 part) * g (ls 1 (1 ^^^ part)) else 0) (1 + 1) = SP (fun a r => F a * g r) (ls 1 1) := by
  show ((0 + F [] * g [0]) + F [0] * g []) = (F [] * g [0] + F [0] * g [])
  omega
theorem gs_2_0 (F g : List Nat → Nat) : sm (fun part => if part &&& (7 ^^^ 0) = 0 then F (ls 2 part) * g (ls 2 (0 ^^^ part)) else 0) (0 + 1) = SP (fun a r => F a * g r) (ls 2 0) := by
  show (0 + F [] * g []) = F [] * g []
  omega
theorem gs_2_1 (F g : List Nat → Nat) : sm (fun part => if part &&& (7 ^^^ 1) = 0 then F (ls 2 part) * g (ls 2 (1 ^^^ part)) else 0) (1 + 1) = SP (fun a r => F a * g r) (ls 2 1) := by
  show ((0 + F [] * g [0]) + F [0] * g []) = (F [] * g [0] + F [0] * g [])
  omega
theorem gs_2_2 (F g : List Nat → Nat) : sm (fun part => if part &&& (7 ^^^ 2) = 0 then F (ls 2 part) * g (ls 2 (2 ^^^ part)) else 0) (2 + 1) = SP (fun a r => F a * g r) (ls 2 2) := by
  show (((0 + F [] * g [1]) + 0) + F [1] * g []) = (F [] * g [1] + F [1] * g [])
  omega
theorem gs_2_3 (F g : List Nat → Nat) : sm (fun part => if part &&& (7 ^^^ 3) = 0 then F (ls 2 part) * g (ls 2 (3 ^^^ part)) else 0) (3 + 1) = SP (fun a r => F a * g r) (ls 2 3) := by
  show ((((0 + F [] * g [0, 1]) + F [0] * g [1]) + F [1] * g [0]) + F [0, 1] * g []) = ((F [] * g [0, 1] + F [1] * g [0]) + (F [0] * g [1] + F [0, 1] * g []))
  omega
theorem gs_3_0 (F g : List Nat → Nat) : sm (fun part => if part &&& (7 ^^^ 0) = 0 then F (ls 3 part) * g (ls 3 (0 ^^^ part)) else 0) (0 + 1) = SP (fun a r => F a * g r) (ls 3 0) := by
  show (0 + F [] * g []) = F [] * g []
  omega
theorem gs_3_1 (F g : List Nat → Nat) : sm (fun part => if part &&& (7 ^^^ 1) = 0 then F (ls 3 part) * g (ls 3 (1 ^^^ part)) else 0) (1 + 1) = SP (fun a r => F a * g r) (ls 3 1) := by
  show ((0 + F [] * g [0]) + F [0] * g []) = (F [] * g [0] + F [0] * g [])
  omega
theorem gs_3_2 (F g : List Nat → Nat) : sm (fun part => if part &&& (7 ^^^ 2) = 0 then F (ls 3 part) * g (ls 3 (2 ^^^ part)) else 0) (2 + 1) = SP (fun a r => F a * g r) (ls 3 2) := by
  show (((0 + F [] * g [1]) + 0) + F [1] * g []) = (F [] * g [1] + F [1] * g [])
  omega
theorem gs_3_3 (F g : List Nat → Nat) : sm (fun part => if part &&& (7 ^^^ 3) = 0 then F (ls 3 part) * g (ls 3 (3 ^^^ part)) else 0) (3 + 1) = SP (fun a r => F a * g r) (ls 3 3) := by
  show ((((0 + F [] * g [0, 1]) + F [0] * g [1]) + F [1] * g [0]) + F [0, 1] * g []) = ((F [] * g [0, 1] + F [1] * g [0]) + (F [0] * g [1] + F [0, 1] * g []))
  omega
theorem gs_3_4 (F g : List Nat → Nat) : sm (fun part => if part &&& (7 ^^^ 4) = 0 then F (ls 3 part) * g (ls 3 (4 ^^^ part)) else 0) (4 + 1) = SP (fun a r => F a * g r) (ls 3 4) := by
  show (((((0 + F [] * g [2]) + 0) + 0) + 0) + F [2] * g []) = (F [] * g [2] + F [2] * g [])
  omega
theorem gs_3_5 (F g : List Nat → Nat) : sm (fun part => if part &&& (7 ^^^ 5) = 0 then F (ls 3 part) * g (ls 3 (5 ^^^ part)) else 0) (5 + 1) = SP (fun a r => F a * g r) (ls 3 5) := by
  show ((((((0 + F [] * g [0, 2]) + F [0] * g [2]) + 0) + 0) + F [2] * g [0]) + F [0, 2] * g []) = ((F [] * g [0, 2] + F [2] * g [0]) + (F [0] * g [2] + F [0, 2] * g []))
  omega
theorem gs_3_6 (F g : List Nat → Nat) : sm (fun part => if part &&& (7 ^^^ 6) = 0 then F (ls 3 part) * g (ls 3 (6 ^^^ part)) else 0) (6 + 1) = SP (fun a r => F a * g r) (ls 3 6) := by
  show (((((((0 + F [] * g [1, 2]) + 0) + F [1] * g [2]) + 0) + F [2] * g [1]) + 0) + F [1, 2] * g []) = ((F [] * g [1, 2] + F [2] * g [1]) + (F [1] * g [2] + F [1, 2] * g []))
  omega
theorem gs_3_7 (F g : List Nat → Nat) : sm (fun part => if part &&& (7 ^^^ 7) = 0 then F (ls 3 part) * g (ls 3 (7 ^^^ part)) else 0) (7 + 1) = SP (fun a r => F a * g r) (ls 3 7) := by
  show ((((((((0 + F [] * g [0, 1, 2]) + F [0] * g [1, 2]) + F [1] * g [0, 2]) + F [0, 1] * g [2]) + F [2] * g [0, 1]) + F [0, 2] * g [1]) + F [1, 2] * g [0]) + F [0, 1, 2] * g []) = (((F [] * g [0, 1, 2] + F [2] * g [0, 1]) + (F [1] * g [0, 2] + F [1, 2] * g [0])) + ((F [0] * g [1, 2] + F [0, 2] * g [1]) + (F [0, 1] * g [2] + F [0, 1, 2] * g [])))
  omega
theorem gs_all (P s : Nat) (hP : P ≤ 3) (hs : s < 2 ^ P) (F g : List Nat → Nat) : sm (fun part => if part &&& (7 ^^^ s) = 0 then F (ls P part) * g (ls P (s ^^^ part)) else 0) (s + 1) = SP (fun a r => F a * g r) (ls P s) := by
  rcases (by omega : P = 0 ∨ P = 1 ∨ P = 2 ∨ P = 3) with rfl | rfl | rfl | rfl
  · obtain rfl : s = 0 := by omega
    exact gs_0_0 F g
  · rcases (by omega : s = 0 ∨ s = 1) with rfl | rfl
    · exact gs_1_0 F g
    · exact gs_1_1 F g
  · rcases (by omega : s = 0 ∨ s = 1 ∨ s = 2 ∨ s = 3) with rfl | rfl | rfl | rfl
    · exact gs_2_0 F g
    · exact gs_2_1 F g
    · exact gs_2_2 F g
    · exact gs_2_3 F g
  · rcases (by omega : s = 0 ∨ s = 1 ∨ s = 2 ∨ s = 3 ∨ s = 4 ∨ s = 5 ∨ s = 6 ∨ s = 7) with rfl | rfl | rfl | rfl | rfl | rfl | rfl | rfl
    · exact gs_3_0 F g
    · exact gs_3_1 F g
    · exact gs_3_2 F g
    · exact gs_3_3 F g
    · exact gs_3_4 F g
    · exact gs_3_5 F g
    · exact gs_3_6 F g
    · exact gs_3_7 F g
theorem wb_0_0 (g : List Nat → Nat) : sm (fun o => if o &&& 0 = 0 then g (ls 0 o) else 0) (2 ^ 0) = SP (fun a _ => g a) (ls 0 (co 0 0)) := by
  show (0 + g []) = g []
  omega
theorem wb_1_0 (g : List Nat → Nat) : sm (fun o => if o &&& 0 = 0 then g (ls 1 o) else 0) (2 ^ 1) = SP (fun a _ => g a) (ls 1 (co 1 0)) := by
  show ((0 + g []) + g [0]) = (g [] + g [0])
  omega
theorem wb_1_1 (g : List Nat → Nat) : sm (fun o => if o &&& 1 = 0 then g (ls 1 o) else 0) (2 ^ 1) = SP (fun a _ => g a) (ls 1 (co 1 1)) := by
  show ((0 + g []) + 0) = g []
  omega
theorem wb_2_0 (g : List Nat → Nat) : sm (fun o => if o &&& 0 = 0 then g (ls 2 o) else 0) (2 ^ 2) = SP (fun a _ => g a) (ls 2 (co 2 0)) := by
  show ((((0 + g []) + g [0]) + g [1]) + g [0, 1]) = ((g [] + g [1]) + (g [0] + g [0, 1]))
  omega
theorem wb_2_1 (g : List Nat → Nat) : sm (fun o => if o &&& 1 = 0 then g (ls 2 o) else 0) (2 ^ 2) = SP (fun a _ => g a) (ls 2 (co 2 1)) := by
  show ((((0 + g []) + 0) + g [1]) + 0) = (g [] + g [1])
  omega
theorem wb_2_2 (g : List Nat → Nat) : sm (fun o => if o &&& 2 = 0 then g (ls 2 o) else 0) (2 ^ 2) = SP (fun a _ => g a) (ls 2 (co 2 2)) := by
  show ((((0 + g []) + g [0]) + 0) + 0) = (g [] + g [0])
  omega
theorem wb_2_3 (g : List Nat → Nat) : sm (fun o => if o &&& 3 = 0 then g (ls 2 o) else 0) (2 ^ 2) = SP (fun a _ => g a) (ls 2 (co 2 3)) := by
  show ((((0 + g []) + 0) + 0) + 0) = g []
  omega
theorem wb_3_0 (g : List Nat → Nat) : sm (fun o => if o &&& 0 = 0 then g (ls 3 o) else 0) (2 ^ 3) = SP (fun a _ => g a) (ls 3 (co 3 0)) := by
  show ((((((((0 + g []) + g [0]) + g [1]) + g [0, 1]) + g [2]) + g [0, 2]) + g [1, 2]) + g [0, 1, 2]) = (((g [] + g [2]) + (g [1] + g [1, 2])) + ((g [0] + g [0, 2]) + (g [0, 1] + g [0, 1, 2])))
  omega
theorem wb_3_1 (g : List Nat → Nat) : sm (fun o => if o &&& 1 = 0 then g (ls 3 o) else 0) (2 ^ 3) = SP (fun a _ => g a) (ls 3 (co 3 1)) := by
  show ((((((((0 + g []) + 0) + g [1]) + 0) + g [2]) + 0) + g [1, 2]) + 0) = ((g [] + g [2]) + (g [1] + g [1, 2]))
  omega
theorem wb_3_2 (g : List Nat → Nat) : sm (fun o => if o &&& 2 = 0 then g (ls 3 o) else 0) (2 ^ 3) = SP (fun a _ => g a) (ls 3 (co 3 2)) := by
  show ((((((((0 + g []) + g [0]) + 0) + 0) + g [2]) + g [0, 2]) + 0) + 0) = ((g [] + g [2]) + (g [0] + g [0, 2]))
  omega
theorem wb_3_3 (g : List Nat → Nat) : sm (fun o => if o &&& 3 = 0 then g (ls 3 o) else 0) (2 ^ 3) = SP (fun a _ => g a) (ls 3 (co 3 3)) := by
  show ((((((((0 + g []) + 0) + 0) + 0) + g [2]) + 0) + 0) + 0) = (g [] + g [2])
  omega
theorem wb_3_4 (g : List Nat → Nat) : sm (fun o => if o &&& 4 = 0 then g (ls 3 o) else 0) (2 ^ 3) = SP (fun a _ => g a) (ls 3 (co 3 4)) := by
  show ((((((((0 + g []) + g [0]) + g [1]) + g [0, 1]) + 0) + 0) + 0) + 0) = ((g [] + g [1]) + (g [0] + g [0, 1]))
  omega
theorem wb_3_5 (g : List Nat → Nat) : sm (fun o => if o &&& 5 = 0 then g (ls 3 o) else 0) (2 ^ 3) = SP (fun a _ => g a) (ls 3 (co 3 5)) := by
  show ((((((((0 + g []) + 0) + g [1]) + 0) + 0) + 0) + 0) + 0) = (g [] + g [1])
  omega
theorem wb_3_6 (g : List Nat → Nat) : sm (fun o => if o &&& 6 = 0 then g (ls 3 o) else 0) (2 ^ 3) = SP (fun a _ => g a) (ls 3 (co 3 6)) := by
  show ((((((((0 + g []) + g [0]) + 0) + 0) + 0) + 0) + 0) + 0) = (g [] + g [0])
  omega
theorem wb_3_7 (g : List Nat → Nat) : sm (fun o => if o &&& 7 = 0 then g (ls 3 o) else 0) (2 ^ 3) = SP (fun a _ => g a) (ls 3 (co 3 7)) := by
  show ((((((((0 + g []) + 0) + 0) + 0) + 0) + 0) + 0) + 0) = g []
  omega
theorem wb_all (P s : Nat) (hP : P ≤ 3) (hs : s < 2 ^ P) (g : List Nat → Nat) : sm (fun o => if o &&& s = 0 then g (ls P o) else 0) (2 ^ P) = SP (fun a _ => g a) (ls P (co P s)) := by
  rcases (by omega : P = 0 ∨ P = 1 ∨ P = 2 ∨ P = 3) with rfl | rfl | rfl | rfl
  · obtain rfl : s = 0 := by omega
    exact wb_0_0 g
  · rcases (by omega : s = 0 ∨ s = 1) with rfl | rfl
    · exact wb_1_0 g
    · exact wb_1_1 g
  · rcases (by omega : s = 0 ∨ s = 1 ∨ s = 2 ∨ s = 3) with rfl | rfl | rfl | rfl
    · exact wb_2_0 g
    · exact wb_2_1 g
    · exact wb_2_2 g
    · exact wb_2_3 g
  · rcases (by omega : s = 0 ∨ s = 1 ∨ s = 2 ∨ s = 3 ∨ s = 4 ∨ s = 5 ∨ s = 6 ∨ s = 7) with rfl | rfl | rfl | rfl | rfl | rfl | rfl | rfl
    · exact wb_3_0 g
    · exact wb_3_1 g
    · exact wb_3_2 g
    · exact wb_3_3 g
    · exact wb_3_4 g
    · exact wb_3_5 g
    · exact wb_3_6 g
    · exact wb_3_7 g
theorem hs_0 (f : List Nat → List Nat → Nat) : sm (fun s => f (ls 0 s) (ls 0 (co 0 s))) (2 ^ 0) = SP f (ls 0 (co 0 0)) := by
  show (0 + f [] []) = f [] []
  omega
theorem hs_1 (f : List Nat → List Nat → Nat) : sm (fun s => f (ls 1 s) (ls 1 (co 1 s))) (2 ^ 1) = SP f (ls 1 (co 1 0)) := by
  show ((0 + f [] [0]) + f [0] []) = (f [] [0] + f [0] [])
  omega
theorem hs_2 (f : List Nat → List Nat → Nat) : sm (fun s => f (ls 2 s) (ls 2 (co 2 s))) (2 ^ 2) = SP f (ls 2 (co 2 0)) := by
  show ((((0 + f [] [0, 1]) + f [0] [1]) + f [1] [0]) + f [0, 1] []) = ((f [] [0, 1] + f [1] [0]) + (f [0] [1] + f [0, 1] []))
  omega
theorem hs_3 (f : List Nat → List Nat → Nat) : sm (fun s => f (ls 3 s) (ls 3 (co 3 s))) (2 ^ 3) = SP f (ls 3 (co 3 0)) := by
  show ((((((((0 + f [] [0, 1, 2]) + f [0] [1, 2]) + f [1] [0, 2]) + f [0, 1] [2]) + f [2] [0, 1]) + f [0, 2] [1]) + f [1, 2] [0]) + f [0, 1, 2] []) = (((f [] [0, 1, 2] + f [2] [0, 1]) + (f [1] [0, 2] + f [1, 2] [0])) + ((f [0] [1, 2] + f [0, 2] [1]) + (f [0, 1] [2] + f [0, 1, 2] [])))
  omega
theorem hs_all (P : Nat) (hP : P ≤ 3) (f : List Nat → List Nat → Nat) : sm (fun s => f (ls P s) (ls P (co P s))) (2 ^ P) = SP f (ls P (co P 0)) := by
  rcases (by omega : P = 0 ∨ P = 1 ∨ P = 2 ∨ P = 3) with rfl | rfl | rfl | rfl
  · exact hs_0 f
  · exact hs_1 f
  · exact hs_2 f
  · exact hs_3 f
theorem sub_bits : ∀ s, s < 8 → ∀ part, part < 8 → ((nI part &&& (nI s ^^^ -1)) = 0 ↔ part &&& (7 ^^^ s) = 0) ∧ nI s ^^^ nI part = nI (s ^^^ part) ∧ s ^^^ part < 8 ∧ ((nI part &&& nI s) = 0 ↔ part &&& s = 0) := by decide +kernel
theorem in_bits : ∀ s, s < 8 → ∀ p, p < 3 → (((nI s >>> (nI p &&& 31)) &&& 1) = 1 ↔ s.testBit p = true) := by decide +kernel
theorem sh_bits : ∀ P, P ≤ 3 → (1 : Int32) <<< (nI P &&& 31) = nI (2 ^ P) := by decide
theorem xor_lt : ∀ P, P ≤ 3 → ∀ s, s < 2 ^ P → ∀ part, part < 2 ^ P → s ^^^ part < 2 ^ P := by decide +kernel
theorem pow_le8 : ∀ P, P ≤ 3 → 2 ^ P ≤ 8 ∧ 1 ≤ 2 ^ P := by decide
