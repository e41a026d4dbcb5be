-- ===== the functional memory =====
/-- kinds and lengths by address; fields by number and address; rows by address and place; the heap's size, the slots used, the address of the empty row -/
def Mem : Type := ((Nat → Nat) × (Nat → Nat)) × ((Nat → Nat → Int32) × (Nat → Nat → Int64) × (Nat → Nat → Option Nat)) × ((Nat → Nat → Int32) × (Nat → Nat → Int64) × (Nat → Nat → Option Nat)) × (Nat × Nat × Nat)
def gK (M : Mem) : Nat → Nat := M.1.1
def gN (M : Mem) : Nat → Nat := M.1.2
def gI (M : Mem) : Nat → Nat → Int32 := M.2.1.1
def gJ (M : Mem) : Nat → Nat → Int64 := M.2.1.2.1
def gR (M : Mem) : Nat → Nat → Option Nat := M.2.1.2.2
def gA (M : Mem) : Nat → Nat → Int32 := M.2.2.1.1
def gB (M : Mem) : Nat → Nat → Int64 := M.2.2.1.2.1
def gO (M : Mem) : Nat → Nat → Option Nat := M.2.2.1.2.2
def gH (M : Mem) : Nat := M.2.2.2.1
def gS (M : Mem) : Nat := M.2.2.2.2.1
def gE (M : Mem) : Nat := M.2.2.2.2.2
def mk (K N : Nat → Nat) (I : Nat → Nat → Int32) (J : Nat → Nat → Int64) (R : Nat → Nat → Option Nat) (A : Nat → Nat → Int32) (B : Nat → Nat → Int64) (O : Nat → Nat → Option Nat) (h s e : Nat) : Mem := ((K, N), (I, J, R), (A, B, O), (h, s, e))
def up2 {α : Type} (f : Nat → Nat → α) (a b : Nat) (v : α) : Nat → Nat → α := fun x y => if x = a ∧ y = b then v else f x y
def up1 {α : Type} (f : Nat → α) (a : Nat) (v : α) : Nat → α := fun x => if x = a then v else f x
/-- a row's cells all v -/
def upr {α : Type} (f : Nat → Nat → α) (a : Nat) (v : α) : Nat → Nat → α := fun x y => if x = a then v else f x y
/-- an object's fields all v -/
def upc {α : Type} (f : Nat → Nat → α) (a : Nat) (v : α) : Nat → Nat → α := fun x y => if y = a then v else f x y
def sI (M : Mem) (f a : Nat) (v : Int32) : Mem := mk (gK M) (gN M) (up2 (gI M) f a v) (gJ M) (gR M) (gA M) (gB M) (gO M) (gH M) (gS M) (gE M)
def sJ (M : Mem) (f a : Nat) (v : Int64) : Mem := mk (gK M) (gN M) (gI M) (up2 (gJ M) f a v) (gR M) (gA M) (gB M) (gO M) (gH M) (gS M) (gE M)
def sR (M : Mem) (f a : Nat) (v : Option Nat) : Mem := mk (gK M) (gN M) (gI M) (gJ M) (up2 (gR M) f a v) (gA M) (gB M) (gO M) (gH M) (gS M) (gE M)
def sA (M : Mem) (a i : Nat) (v : Int32) : Mem := mk (gK M) (gN M) (gI M) (gJ M) (gR M) (up2 (gA M) a i v) (gB M) (gO M) (gH M) (gS M) (gE M)
def sB (M : Mem) (a i : Nat) (v : Int64) : Mem := mk (gK M) (gN M) (gI M) (gJ M) (gR M) (gA M) (up2 (gB M) a i v) (gO M) (gH M) (gS M) (gE M)
def sO (M : Mem) (a i : Nat) (v : Option Nat) : Mem := mk (gK M) (gN M) (gI M) (gJ M) (gR M) (gA M) (gB M) (up2 (gO M) a i v) (gH M) (gS M) (gE M)
/-- a new object of kind k with n fields -/
def nO (M : Mem) (k n : Nat) : Mem := mk (up1 (gK M) (gH M) k) (gN M) (upc (gI M) (gH M) 0) (upc (gJ M) (gH M) 0) (upc (gR M) (gH M) none) (gA M) (gB M) (gO M) (gH M + 1) (gS M + n) (gE M)
/-- a new row of kind k with n places -/
def nA (M : Mem) (k n : Nat) : Mem := mk (up1 (gK M) (gH M) k) (up1 (gN M) (gH M) n) (gI M) (gJ M) (gR M) (upr (gA M) (gH M) 0) (upr (gB M) (gH M) 0) (upr (gO M) (gH M) none) (gH M + 1) (gS M + n) (gE M)
/-- a row of n rows of k longs each -/
def nM (M : Mem) (n k : Nat) : Mem := mk (fun x => if x = gH M then 24 else if gH M < x ∧ x ≤ gH M + n then 21 else gK M x) (fun x => if x = gH M then n else if gH M < x ∧ x ≤ gH M + n then k else gN M x) (gI M) (gJ M) (gR M) (gA M) (fun x i => if gH M < x ∧ x ≤ gH M + n then 0 else gB M x i) (fun x i => if x = gH M then (if i < n then some (gH M + 1 + i) else none) else gO M x i) (gH M + 1 + n) (gS M + n + n * k) (gE M)
/-- the heap grew by others' cells -/
def sH (M : Mem) (h s : Nat) : Mem := mk (gK M) (gN M) (gI M) (gJ M) (gR M) (gA M) (gB M) (gO M) h s (gE M)
-- ===== the combinators of the functional programs =====
def grd {β : Type} (p : Prop) [Decidable p] (k : Option β) : Option β := if p then k else none
def nn {β : Type} (r : Option Nat) (k : Nat → Option β) : Option β := match r with
  | none => none
  | some a => k a
def bnd {α β : Type} (a : α) (k : α → Option β) : Option β := k a
def cl {ρ β : Type} (o : Option (Mem × ρ)) (k : Mem → ρ → Option β) : Option β := match o with
  | none => none
  | some q => k q.1 q.2
theorem grd_e {β : Type} {p : Prop} [Decidable p] {k : Option β} {r : β} (h : grd p k = some r) : p ∧ k = some r := by
  unfold grd at h
  by_cases hp : p
  · rw [if_pos hp] at h
    exact ⟨hp, h⟩
  · rw [if_neg hp] at h
    cases h
theorem nn_e {β : Type} {o : Option Nat} {k : Nat → Option β} {r : β} (h : nn o k = some r) : ∃ a, o = some a ∧ k a = some r := by
  cases o with
  | none => cases h
  | some a => exact ⟨a, rfl, h⟩
theorem bnd_e {α β : Type} {a : α} {k : α → Option β} {r : β} (h : bnd a k = some r) : ∃ x, x = a ∧ k x = some r := ⟨a, rfl, h⟩
theorem cl_e {ρ β : Type} {o : Option (Mem × ρ)} {k : Mem → ρ → Option β} {r : β} (h : cl o k = some r) : ∃ M q, o = some (M, q) ∧ k M q = some r := by
  cases o with
  | none => cases h
  | some q => exact ⟨q.1, q.2, rfl, h⟩
theorem ite_e {β : Type} {p : Prop} [Decidable p] {a b : Option β} {r : β} (h : (if p then a else b) = some r) : (p ∧ a = some r) ∨ (¬ p ∧ b = some r) := by
  by_cases hp : p
  · rw [if_pos hp] at h
    exact Or.inl ⟨hp, h⟩
  · rw [if_neg hp] at h
    exact Or.inr ⟨hp, h⟩
/-- the rounds that any loop is given -/
def FU : Nat := 1000000
-- ===== what a memory says of the heap =====
def fkT : List (List Nat) := [[0, 2, 0], [0, 0, 0, 0, 2, 2, 2, 0, 0, 0, 1], [2, 2, 2, 2, 2, 0, 0], [0, 0, 0, 0, 0], [0, 0, 1], [1, 1, 1, 1, 1], [0, 0, 2, 0], [2, 2, 2], [2, 2, 0], [0, 0, 2, 2, 2, 2], [2, 2, 0, 0, 0, 0], [2, 2, 2, 2], [2, 2, 2, 2, 2, 2, 2, 2, 2, 1, 0], [2, 0, 0, 2, 2, 2, 2, 2, 2, 2, 2, 2, 0, 2, 2, 2, 0, 2, 2, 2, 2, 2, 0, 2, 2, 2, 2, 2, 0, 0, 2, 2, 2, 2, 0, 0, 0, 2, 2, 2, 2, 0, 0, 0, 2, 2, 2, 2, 2, 2, 2, 2, 2, 2, 2, 0, 2, 2]]
def fkd (c k : Nat) : Nat := (fkT.getD c []).getD k 3
def nfl (c : Nat) : Nat := (fkT.getD c []).length
def fv (M : Mem) (c k a : Nat) : Value := if fkd c k = 0 then .int (gI M (100 * c + k) a) else if fkd c k = 1 then .long (gJ M (100 * c + k) a) else va_rf (gR M (100 * c + k) a)
def ownM (M : Mem) : Nat → Prop := fun q => gK M q ≠ 0 ∨ gH M ≤ q
def PW (D : va_G) (ac : Nat → ClassId) (M : Mem) (H : Heap) : Prop :=
  H.size = gH M ∧ (∀ a, gK M a ≠ 0 → a < gH M) ∧
  (∀ a c, gK M a = c + 1 → c < 14 → t_OB a (D.1 c) (nfl c) (D.2 c) H (fun k => fv M c k a)) ∧
  (∀ a, gK M a = 20 → H[a]? = some (vp_cell (ac 0) (gN M a, .inl (gA M a)))) ∧
  (∀ a, gK M a = 21 → H[a]? = some (vp_cell (ac 1) (gN M a, .inr (.inl (gB M a))))) ∧
  (∀ a, gK M a = 22 → H[a]? = some (vp_cell (ac 2) (gN M a, .inl (gA M a)))) ∧
  (∀ a, gK M a = 23 → H[a]? = some (vp_cell (ac 3) (gN M a, .inr (.inr (.inr (.inr (gO M a))))))) ∧
  (∀ a, gK M a = 24 → H[a]? = some (vp_cell (ac 4) (gN M a, .inr (.inr (.inr (.inr (gO M a)))))))
def KW (D : va_G) (ac : Nat → ClassId) (s : State) : Prop := va_K D vwCl [(ac 0, .int), (ac 1, .long), (ac 2, .boolean), (ac 3, .object "java/lang/Object"), (ac 4, .array .long)] s
