/-- one place of a function changed -/
def ud {α : Type} (f : Nat → α) (i : Nat) (v : α) : Nat → α := fun j => if j = i then v else f j
/-- field / row f replaced whole -/
def wI (M : Mem) (f : Nat) (φ : Nat → Int32) : Mem := mk (gK M) (gN M) (fun x => if x = f then φ else gI M x) (gJ M) (gR M) (gA M) (gB M) (gO M) (gH M) (gS M) (gE M)
/-- field / row f replaced whole -/
def wJ (M : Mem) (f : Nat) (φ : Nat → Int64) : Mem := mk (gK M) (gN M) (gI M) (fun x => if x = f then φ else gJ M x) (gR M) (gA M) (gB M) (gO M) (gH M) (gS M) (gE M)
/-- field / row f replaced whole -/
def wR (M : Mem) (f : Nat) (φ : Nat → Option Nat) : Mem := mk (gK M) (gN M) (gI M) (gJ M) (fun x => if x = f then φ else gR M x) (gA M) (gB M) (gO M) (gH M) (gS M) (gE M)
/-- field / row f replaced whole -/
def wA (M : Mem) (f : Nat) (φ : Nat → Int32) : Mem := mk (gK M) (gN M) (gI M) (gJ M) (gR M) (fun x => if x = f then φ else gA M x) (gB M) (gO M) (gH M) (gS M) (gE M)
/-- field / row f replaced whole -/
def wB (M : Mem) (f : Nat) (φ : Nat → Int64) : Mem := mk (gK M) (gN M) (gI M) (gJ M) (gR M) (gA M) (fun x => if x = f then φ else gB M x) (gO M) (gH M) (gS M) (gE M)
/-- field / row f replaced whole -/
def wO (M : Mem) (f : Nat) (φ : Nat → Option Nat) : Mem := mk (gK M) (gN M) (gI M) (gJ M) (gR M) (gA M) (gB M) (fun x => if x = f then φ else gO M x) (gH M) (gS M) (gE M)
theorem gK_sI (M : Mem) (f a : Nat) (v : Int32) : gK (sI M f a v) = gK M := rfl
theorem gK_wI (M : Mem) (f : Nat) (φ : Nat → Int32) : gK (wI M f φ) = gK M := rfl
theorem gN_sI (M : Mem) (f a : Nat) (v : Int32) : gN (sI M f a v) = gN M := rfl
theorem gN_wI (M : Mem) (f : Nat) (φ : Nat → Int32) : gN (wI M f φ) = gN M := rfl
theorem gJ_sI (M : Mem) (f a : Nat) (v : Int32) : gJ (sI M f a v) = gJ M := rfl
theorem gJ_wI (M : Mem) (f : Nat) (φ : Nat → Int32) : gJ (wI M f φ) = gJ M := rfl
theorem gR_sI (M : Mem) (f a : Nat) (v : Int32) : gR (sI M f a v) = gR M := rfl
theorem gR_wI (M : Mem) (f : Nat) (φ : Nat → Int32) : gR (wI M f φ) = gR M := rfl
theorem gA_sI (M : Mem) (f a : Nat) (v : Int32) : gA (sI M f a v) = gA M := rfl
theorem gA_wI (M : Mem) (f : Nat) (φ : Nat → Int32) : gA (wI M f φ) = gA M := rfl
theorem gB_sI (M : Mem) (f a : Nat) (v : Int32) : gB (sI M f a v) = gB M := rfl
theorem gB_wI (M : Mem) (f : Nat) (φ : Nat → Int32) : gB (wI M f φ) = gB M := rfl
theorem gO_sI (M : Mem) (f a : Nat) (v : Int32) : gO (sI M f a v) = gO M := rfl
theorem gO_wI (M : Mem) (f : Nat) (φ : Nat → Int32) : gO (wI M f φ) = gO M := rfl
theorem gH_sI (M : Mem) (f a : Nat) (v : Int32) : gH (sI M f a v) = gH M := rfl
theorem gH_wI (M : Mem) (f : Nat) (φ : Nat → Int32) : gH (wI M f φ) = gH M := rfl
theorem gS_sI (M : Mem) (f a : Nat) (v : Int32) : gS (sI M f a v) = gS M := rfl
theorem gS_wI (M : Mem) (f : Nat) (φ : Nat → Int32) : gS (wI M f φ) = gS M := rfl
theorem gE_sI (M : Mem) (f a : Nat) (v : Int32) : gE (sI M f a v) = gE M := rfl
theorem gE_wI (M : Mem) (f : Nat) (φ : Nat → Int32) : gE (wI M f φ) = gE M := rfl
theorem gI_sI (M : Mem) (f a : Nat) (v : Int32) (f1 a1 : Nat) : gI (sI M f a v) f1 a1 = if f1 = f ∧ a1 = a then v else gI M f1 a1 := rfl
theorem gI_wI (M : Mem) (f : Nat) (φ : Nat → Int32) (f1 : Nat) : gI (wI M f φ) f1 = if f1 = f then φ else gI M f1 := rfl
theorem sI_wI (M : Mem) (f : Nat) (φ : Nat → Int32) (a : Nat) (v : Int32) : sI (wI M f φ) f a v = wI M f (ud φ a v) := by
  refine congrArg (fun z => mk (gK M) (gN M) z (gJ M) (gR M) (gA M) (gB M) (gO M) (gH M) (gS M) (gE M)) ?_
  funext x y
  by_cases h : x = f
  · subst h
    simp [up2, ud, gI_wI]
  · simp [up2, ud, gI_wI, h]
theorem sI_wI_ne (M : Mem) (f f1 : Nat) (φ : Nat → Int32) (a : Nat) (v : Int32) (h : f1 ≠ f) : sI (wI M f φ) f1 a v = wI (sI M f1 a v) f φ := by
  refine congrArg (fun z => mk (gK M) (gN M) z (gJ M) (gR M) (gA M) (gB M) (gO M) (gH M) (gS M) (gE M)) ?_
  funext x y
  by_cases h2 : x = f
  · subst h2
    simp [up2, gI_wI, Ne.symm h]
  · simp [up2, gI_wI, gI_sI, h2]
theorem wI_self (M : Mem) (f : Nat) : wI M f (gI M f) = M := by
  refine (congrArg (fun z => mk (gK M) (gN M) z (gJ M) (gR M) (gA M) (gB M) (gO M) (gH M) (gS M) (gE M)) ?_ : _ = mk (gK M) (gN M) (gI M) (gJ M) (gR M) (gA M) (gB M) (gO M) (gH M) (gS M) (gE M))
  funext x
  by_cases h : x = f
  · subst h
    simp
  · simp [h]
theorem wI_wI (M : Mem) (f : Nat) (φ ψ : Nat → Int32) : wI (wI M f φ) f ψ = wI M f ψ := by
  refine congrArg (fun z => mk (gK M) (gN M) z (gJ M) (gR M) (gA M) (gB M) (gO M) (gH M) (gS M) (gE M)) ?_
  funext x
  by_cases h : x = f
  · subst h
    simp [gI_wI]
  · simp [h, gI_wI]
theorem sI_wJ (M : Mem) (f : Nat) (φ : Nat → Int64) (f1 a : Nat) (v : Int32) : sI (wJ M f φ) f1 a v = wJ (sI M f1 a v) f φ := rfl
theorem sI_wR (M : Mem) (f : Nat) (φ : Nat → Option Nat) (f1 a : Nat) (v : Int32) : sI (wR M f φ) f1 a v = wR (sI M f1 a v) f φ := rfl
theorem sI_wA (M : Mem) (f : Nat) (φ : Nat → Int32) (f1 a : Nat) (v : Int32) : sI (wA M f φ) f1 a v = wA (sI M f1 a v) f φ := rfl
theorem sI_wB (M : Mem) (f : Nat) (φ : Nat → Int64) (f1 a : Nat) (v : Int32) : sI (wB M f φ) f1 a v = wB (sI M f1 a v) f φ := rfl
theorem sI_wO (M : Mem) (f : Nat) (φ : Nat → Option Nat) (f1 a : Nat) (v : Int32) : sI (wO M f φ) f1 a v = wO (sI M f1 a v) f φ := rfl
theorem gK_sJ (M : Mem) (f a : Nat) (v : Int64) : gK (sJ M f a v) = gK M := rfl
theorem gK_wJ (M : Mem) (f : Nat) (φ : Nat → Int64) : gK (wJ M f φ) = gK M := rfl
theorem gN_sJ (M : Mem) (f a : Nat) (v : Int64) : gN (sJ M f a v) = gN M := rfl
theorem gN_wJ (M : Mem) (f : Nat) (φ : Nat → Int64) : gN (wJ M f φ) = gN M := rfl
theorem gI_sJ (M : Mem) (f a : Nat) (v : Int64) : gI (sJ M f a v) = gI M := rfl
theorem gI_wJ (M : Mem) (f : Nat) (φ : Nat → Int64) : gI (wJ M f φ) = gI M := rfl
theorem gR_sJ (M : Mem) (f a : Nat) (v : Int64) : gR (sJ M f a v) = gR M := rfl
theorem gR_wJ (M : Mem) (f : Nat) (φ : Nat → Int64) : gR (wJ M f φ) = gR M := rfl
theorem gA_sJ (M : Mem) (f a : Nat) (v : Int64) : gA (sJ M f a v) = gA M := rfl
theorem gA_wJ (M : Mem) (f : Nat) (φ : Nat → Int64) : gA (wJ M f φ) = gA M := rfl
theorem gB_sJ (M : Mem) (f a : Nat) (v : Int64) : gB (sJ M f a v) = gB M := rfl
theorem gB_wJ (M : Mem) (f : Nat) (φ : Nat → Int64) : gB (wJ M f φ) = gB M := rfl
theorem gO_sJ (M : Mem) (f a : Nat) (v : Int64) : gO (sJ M f a v) = gO M := rfl
theorem gO_wJ (M : Mem) (f : Nat) (φ : Nat → Int64) : gO (wJ M f φ) = gO M := rfl
theorem gH_sJ (M : Mem) (f a : Nat) (v : Int64) : gH (sJ M f a v) = gH M := rfl
theorem gH_wJ (M : Mem) (f : Nat) (φ : Nat → Int64) : gH (wJ M f φ) = gH M := rfl
theorem gS_sJ (M : Mem) (f a : Nat) (v : Int64) : gS (sJ M f a v) = gS M := rfl
theorem gS_wJ (M : Mem) (f : Nat) (φ : Nat → Int64) : gS (wJ M f φ) = gS M := rfl
theorem gE_sJ (M : Mem) (f a : Nat) (v : Int64) : gE (sJ M f a v) = gE M := rfl
theorem gE_wJ (M : Mem) (f : Nat) (φ : Nat → Int64) : gE (wJ M f φ) = gE M := rfl
theorem gJ_sJ (M : Mem) (f a : Nat) (v : Int64) (f1 a1 : Nat) : gJ (sJ M f a v) f1 a1 = if f1 = f ∧ a1 = a then v else gJ M f1 a1 := rfl
theorem gJ_wJ (M : Mem) (f : Nat) (φ : Nat → Int64) (f1 : Nat) : gJ (wJ M f φ) f1 = if f1 = f then φ else gJ M f1 := rfl
theorem sJ_wJ (M : Mem) (f : Nat) (φ : Nat → Int64) (a : Nat) (v : Int64) : sJ (wJ M f φ) f a v = wJ M f (ud φ a v) := by
  refine congrArg (fun z => mk (gK M) (gN M) (gI M) z (gR M) (gA M) (gB M) (gO M) (gH M) (gS M) (gE M)) ?_
  funext x y
  by_cases h : x = f
  · subst h
    simp [up2, ud, gJ_wJ]
  · simp [up2, ud, gJ_wJ, h]
theorem sJ_wJ_ne (M : Mem) (f f1 : Nat) (φ : Nat → Int64) (a : Nat) (v : Int64) (h : f1 ≠ f) : sJ (wJ M f φ) f1 a v = wJ (sJ M f1 a v) f φ := by
  refine congrArg (fun z => mk (gK M) (gN M) (gI M) z (gR M) (gA M) (gB M) (gO M) (gH M) (gS M) (gE M)) ?_
  funext x y
  by_cases h2 : x = f
  · subst h2
    simp [up2, gJ_wJ, Ne.symm h]
  · simp [up2, gJ_wJ, gJ_sJ, h2]
theorem wJ_self (M : Mem) (f : Nat) : wJ M f (gJ M f) = M := by
  refine (congrArg (fun z => mk (gK M) (gN M) (gI M) z (gR M) (gA M) (gB M) (gO M) (gH M) (gS M) (gE M)) ?_ : _ = mk (gK M) (gN M) (gI M) (gJ M) (gR M) (gA M) (gB M) (gO M) (gH M) (gS M) (gE M))
  funext x
  by_cases h : x = f
  · subst h
    simp
  · simp [h]
theorem wJ_wJ (M : Mem) (f : Nat) (φ ψ : Nat → Int64) : wJ (wJ M f φ) f ψ = wJ M f ψ := by
  refine congrArg (fun z => mk (gK M) (gN M) (gI M) z (gR M) (gA M) (gB M) (gO M) (gH M) (gS M) (gE M)) ?_
  funext x
  by_cases h : x = f
  · subst h
    simp [gJ_wJ]
  · simp [h, gJ_wJ]
theorem sJ_wI (M : Mem) (f : Nat) (φ : Nat → Int32) (f1 a : Nat) (v : Int64) : sJ (wI M f φ) f1 a v = wI (sJ M f1 a v) f φ := rfl
theorem sJ_wR (M : Mem) (f : Nat) (φ : Nat → Option Nat) (f1 a : Nat) (v : Int64) : sJ (wR M f φ) f1 a v = wR (sJ M f1 a v) f φ := rfl
theorem sJ_wA (M : Mem) (f : Nat) (φ : Nat → Int32) (f1 a : Nat) (v : Int64) : sJ (wA M f φ) f1 a v = wA (sJ M f1 a v) f φ := rfl
theorem sJ_wB (M : Mem) (f : Nat) (φ : Nat → Int64) (f1 a : Nat) (v : Int64) : sJ (wB M f φ) f1 a v = wB (sJ M f1 a v) f φ := rfl
theorem sJ_wO (M : Mem) (f : Nat) (φ : Nat → Option Nat) (f1 a : Nat) (v : Int64) : sJ (wO M f φ) f1 a v = wO (sJ M f1 a v) f φ := rfl
theorem gK_sR (M : Mem) (f a : Nat) (v : Option Nat) : gK (sR M f a v) = gK M := rfl
theorem gK_wR (M : Mem) (f : Nat) (φ : Nat → Option Nat) : gK (wR M f φ) = gK M := rfl
theorem gN_sR (M : Mem) (f a : Nat) (v : Option Nat) : gN (sR M f a v) = gN M := rfl
theorem gN_wR (M : Mem) (f : Nat) (φ : Nat → Option Nat) : gN (wR M f φ) = gN M := rfl
theorem gI_sR (M : Mem) (f a : Nat) (v : Option Nat) : gI (sR M f a v) = gI M := rfl
theorem gI_wR (M : Mem) (f : Nat) (φ : Nat → Option Nat) : gI (wR M f φ) = gI M := rfl
theorem gJ_sR (M : Mem) (f a : Nat) (v : Option Nat) : gJ (sR M f a v) = gJ M := rfl
theorem gJ_wR (M : Mem) (f : Nat) (φ : Nat → Option Nat) : gJ (wR M f φ) = gJ M := rfl
theorem gA_sR (M : Mem) (f a : Nat) (v : Option Nat) : gA (sR M f a v) = gA M := rfl
theorem gA_wR (M : Mem) (f : Nat) (φ : Nat → Option Nat) : gA (wR M f φ) = gA M := rfl
theorem gB_sR (M : Mem) (f a : Nat) (v : Option Nat) : gB (sR M f a v) = gB M := rfl
theorem gB_wR (M : Mem) (f : Nat) (φ : Nat → Option Nat) : gB (wR M f φ) = gB M := rfl
theorem gO_sR (M : Mem) (f a : Nat) (v : Option Nat) : gO (sR M f a v) = gO M := rfl
theorem gO_wR (M : Mem) (f : Nat) (φ : Nat → Option Nat) : gO (wR M f φ) = gO M := rfl
theorem gH_sR (M : Mem) (f a : Nat) (v : Option Nat) : gH (sR M f a v) = gH M := rfl
theorem gH_wR (M : Mem) (f : Nat) (φ : Nat → Option Nat) : gH (wR M f φ) = gH M := rfl
theorem gS_sR (M : Mem) (f a : Nat) (v : Option Nat) : gS (sR M f a v) = gS M := rfl
theorem gS_wR (M : Mem) (f : Nat) (φ : Nat → Option Nat) : gS (wR M f φ) = gS M := rfl
theorem gE_sR (M : Mem) (f a : Nat) (v : Option Nat) : gE (sR M f a v) = gE M := rfl
theorem gE_wR (M : Mem) (f : Nat) (φ : Nat → Option Nat) : gE (wR M f φ) = gE M := rfl
theorem gR_sR (M : Mem) (f a : Nat) (v : Option Nat) (f1 a1 : Nat) : gR (sR M f a v) f1 a1 = if f1 = f ∧ a1 = a then v else gR M f1 a1 := rfl
theorem gR_wR (M : Mem) (f : Nat) (φ : Nat → Option Nat) (f1 : Nat) : gR (wR M f φ) f1 = if f1 = f then φ else gR M f1 := rfl
theorem sR_wR (M : Mem) (f : Nat) (φ : Nat → Option Nat) (a : Nat) (v : Option Nat) : sR (wR M f φ) f a v = wR M f (ud φ a v) := by
  refine congrArg (fun z => mk (gK M) (gN M) (gI M) (gJ M) z (gA M) (gB M) (gO M) (gH M) (gS M) (gE M)) ?_
  funext x y
  by_cases h : x = f
  · subst h
    simp [up2, ud, gR_wR]
  · simp [up2, ud, gR_wR, h]
theorem sR_wR_ne (M : Mem) (f f1 : Nat) (φ : Nat → Option Nat) (a : Nat) (v : Option Nat) (h : f1 ≠ f) : sR (wR M f φ) f1 a v = wR (sR M f1 a v) f φ := by
  refine congrArg (fun z => mk (gK M) (gN M) (gI M) (gJ M) z (gA M) (gB M) (gO M) (gH M) (gS M) (gE M)) ?_
  funext x y
  by_cases h2 : x = f
  · subst h2
    simp [up2, gR_wR, Ne.symm h]
  · simp [up2, gR_wR, gR_sR, h2]
theorem wR_self (M : Mem) (f : Nat) : wR M f (gR M f) = M := by
  refine (congrArg (fun z => mk (gK M) (gN M) (gI M) (gJ M) z (gA M) (gB M) (gO M) (gH M) (gS M) (gE M)) ?_ : _ = mk (gK M) (gN M) (gI M) (gJ M) (gR M) (gA M) (gB M) (gO M) (gH M) (gS M) (gE M))
  funext x
  by_cases h : x = f
  · subst h
    simp
  · simp [h]
theorem wR_wR (M : Mem) (f : Nat) (φ ψ : Nat → Option Nat) : wR (wR M f φ) f ψ = wR M f ψ := by
  refine congrArg (fun z => mk (gK M) (gN M) (gI M) (gJ M) z (gA M) (gB M) (gO M) (gH M) (gS M) (gE M)) ?_
  funext x
  by_cases h : x = f
  · subst h
    simp [gR_wR]
  · simp [h, gR_wR]
theorem sR_wI (M : Mem) (f : Nat) (φ : Nat → Int32) (f1 a : Nat) (v : Option Nat) : sR (wI M f φ) f1 a v = wI (sR M f1 a v) f φ := rfl
theorem sR_wJ (M : Mem) (f : Nat) (φ : Nat → Int64) (f1 a : Nat) (v : Option Nat) : sR (wJ M f φ) f1 a v = wJ (sR M f1 a v) f φ := rfl
theorem sR_wA (M : Mem) (f : Nat) (φ : Nat → Int32) (f1 a : Nat) (v : Option Nat) : sR (wA M f φ) f1 a v = wA (sR M f1 a v) f φ := rfl
theorem sR_wB (M : Mem) (f : Nat) (φ : Nat → Int64) (f1 a : Nat) (v : Option Nat) : sR (wB M f φ) f1 a v = wB (sR M f1 a v) f φ := rfl
theorem sR_wO (M : Mem) (f : Nat) (φ : Nat → Option Nat) (f1 a : Nat) (v : Option Nat) : sR (wO M f φ) f1 a v = wO (sR M f1 a v) f φ := rfl
theorem gK_sA (M : Mem) (f a : Nat) (v : Int32) : gK (sA M f a v) = gK M := rfl
theorem gK_wA (M : Mem) (f : Nat) (φ : Nat → Int32) : gK (wA M f φ) = gK M := rfl
theorem gN_sA (M : Mem) (f a : Nat) (v : Int32) : gN (sA M f a v) = gN M := rfl
theorem gN_wA (M : Mem) (f : Nat) (φ : Nat → Int32) : gN (wA M f φ) = gN M := rfl
theorem gI_sA (M : Mem) (f a : Nat) (v : Int32) : gI (sA M f a v) = gI M := rfl
theorem gI_wA (M : Mem) (f : Nat) (φ : Nat → Int32) : gI (wA M f φ) = gI M := rfl
theorem gJ_sA (M : Mem) (f a : Nat) (v : Int32) : gJ (sA M f a v) = gJ M := rfl
theorem gJ_wA (M : Mem) (f : Nat) (φ : Nat → Int32) : gJ (wA M f φ) = gJ M := rfl
theorem gR_sA (M : Mem) (f a : Nat) (v : Int32) : gR (sA M f a v) = gR M := rfl
theorem gR_wA (M : Mem) (f : Nat) (φ : Nat → Int32) : gR (wA M f φ) = gR M := rfl
theorem gB_sA (M : Mem) (f a : Nat) (v : Int32) : gB (sA M f a v) = gB M := rfl
theorem gB_wA (M : Mem) (f : Nat) (φ : Nat → Int32) : gB (wA M f φ) = gB M := rfl
theorem gO_sA (M : Mem) (f a : Nat) (v : Int32) : gO (sA M f a v) = gO M := rfl
theorem gO_wA (M : Mem) (f : Nat) (φ : Nat → Int32) : gO (wA M f φ) = gO M := rfl
theorem gH_sA (M : Mem) (f a : Nat) (v : Int32) : gH (sA M f a v) = gH M := rfl
theorem gH_wA (M : Mem) (f : Nat) (φ : Nat → Int32) : gH (wA M f φ) = gH M := rfl
theorem gS_sA (M : Mem) (f a : Nat) (v : Int32) : gS (sA M f a v) = gS M := rfl
theorem gS_wA (M : Mem) (f : Nat) (φ : Nat → Int32) : gS (wA M f φ) = gS M := rfl
theorem gE_sA (M : Mem) (f a : Nat) (v : Int32) : gE (sA M f a v) = gE M := rfl
theorem gE_wA (M : Mem) (f : Nat) (φ : Nat → Int32) : gE (wA M f φ) = gE M := rfl
theorem gA_sA (M : Mem) (f a : Nat) (v : Int32) (f1 a1 : Nat) : gA (sA M f a v) f1 a1 = if f1 = f ∧ a1 = a then v else gA M f1 a1 := rfl
theorem gA_wA (M : Mem) (f : Nat) (φ : Nat → Int32) (f1 : Nat) : gA (wA M f φ) f1 = if f1 = f then φ else gA M f1 := rfl
theorem sA_wA (M : Mem) (f : Nat) (φ : Nat → Int32) (a : Nat) (v : Int32) : sA (wA M f φ) f a v = wA M f (ud φ a v) := by
  refine congrArg (fun z => mk (gK M) (gN M) (gI M) (gJ M) (gR M) z (gB M) (gO M) (gH M) (gS M) (gE M)) ?_
  funext x y
  by_cases h : x = f
  · subst h
    simp [up2, ud, gA_wA]
  · simp [up2, ud, gA_wA, h]
theorem sA_wA_ne (M : Mem) (f f1 : Nat) (φ : Nat → Int32) (a : Nat) (v : Int32) (h : f1 ≠ f) : sA (wA M f φ) f1 a v = wA (sA M f1 a v) f φ := by
  refine congrArg (fun z => mk (gK M) (gN M) (gI M) (gJ M) (gR M) z (gB M) (gO M) (gH M) (gS M) (gE M)) ?_
  funext x y
  by_cases h2 : x = f
  · subst h2
    simp [up2, gA_wA, Ne.symm h]
  · simp [up2, gA_wA, gA_sA, h2]
theorem wA_self (M : Mem) (f : Nat) : wA M f (gA M f) = M := by
  refine (congrArg (fun z => mk (gK M) (gN M) (gI M) (gJ M) (gR M) z (gB M) (gO M) (gH M) (gS M) (gE M)) ?_ : _ = mk (gK M) (gN M) (gI M) (gJ M) (gR M) (gA M) (gB M) (gO M) (gH M) (gS M) (gE M))
  funext x
  by_cases h : x = f
  · subst h
    simp
  · simp [h]
theorem wA_wA (M : Mem) (f : Nat) (φ ψ : Nat → Int32) : wA (wA M f φ) f ψ = wA M f ψ := by
  refine congrArg (fun z => mk (gK M) (gN M) (gI M) (gJ M) (gR M) z (gB M) (gO M) (gH M) (gS M) (gE M)) ?_
  funext x
  by_cases h : x = f
  · subst h
    simp [gA_wA]
  · simp [h, gA_wA]
theorem sA_wI (M : Mem) (f : Nat) (φ : Nat → Int32) (f1 a : Nat) (v : Int32) : sA (wI M f φ) f1 a v = wI (sA M f1 a v) f φ := rfl
theorem sA_wJ (M : Mem) (f : Nat) (φ : Nat → Int64) (f1 a : Nat) (v : Int32) : sA (wJ M f φ) f1 a v = wJ (sA M f1 a v) f φ := rfl
theorem sA_wR (M : Mem) (f : Nat) (φ : Nat → Option Nat) (f1 a : Nat) (v : Int32) : sA (wR M f φ) f1 a v = wR (sA M f1 a v) f φ := rfl
theorem sA_wB (M : Mem) (f : Nat) (φ : Nat → Int64) (f1 a : Nat) (v : Int32) : sA (wB M f φ) f1 a v = wB (sA M f1 a v) f φ := rfl
theorem sA_wO (M : Mem) (f : Nat) (φ : Nat → Option Nat) (f1 a : Nat) (v : Int32) : sA (wO M f φ) f1 a v = wO (sA M f1 a v) f φ := rfl
theorem gK_sB (M : Mem) (f a : Nat) (v : Int64) : gK (sB M f a v) = gK M := rfl
theorem gK_wB (M : Mem) (f : Nat) (φ : Nat → Int64) : gK (wB M f φ) = gK M := rfl
theorem gN_sB (M : Mem) (f a : Nat) (v : Int64) : gN (sB M f a v) = gN M := rfl
theorem gN_wB (M : Mem) (f : Nat) (φ : Nat → Int64) : gN (wB M f φ) = gN M := rfl
theorem gI_sB (M : Mem) (f a : Nat) (v : Int64) : gI (sB M f a v) = gI M := rfl
theorem gI_wB (M : Mem) (f : Nat) (φ : Nat → Int64) : gI (wB M f φ) = gI M := rfl
theorem gJ_sB (M : Mem) (f a : Nat) (v : Int64) : gJ (sB M f a v) = gJ M := rfl
theorem gJ_wB (M : Mem) (f : Nat) (φ : Nat → Int64) : gJ (wB M f φ) = gJ M := rfl
theorem gR_sB (M : Mem) (f a : Nat) (v : Int64) : gR (sB M f a v) = gR M := rfl
theorem gR_wB (M : Mem) (f : Nat) (φ : Nat → Int64) : gR (wB M f φ) = gR M := rfl
theorem gA_sB (M : Mem) (f a : Nat) (v : Int64) : gA (sB M f a v) = gA M := rfl
theorem gA_wB (M : Mem) (f : Nat) (φ : Nat → Int64) : gA (wB M f φ) = gA M := rfl
theorem gO_sB (M : Mem) (f a : Nat) (v : Int64) : gO (sB M f a v) = gO M := rfl
theorem gO_wB (M : Mem) (f : Nat) (φ : Nat → Int64) : gO (wB M f φ) = gO M := rfl
theorem gH_sB (M : Mem) (f a : Nat) (v : Int64) : gH (sB M f a v) = gH M := rfl
theorem gH_wB (M : Mem) (f : Nat) (φ : Nat → Int64) : gH (wB M f φ) = gH M := rfl
theorem gS_sB (M : Mem) (f a : Nat) (v : Int64) : gS (sB M f a v) = gS M := rfl
theorem gS_wB (M : Mem) (f : Nat) (φ : Nat → Int64) : gS (wB M f φ) = gS M := rfl
theorem gE_sB (M : Mem) (f a : Nat) (v : Int64) : gE (sB M f a v) = gE M := rfl
theorem gE_wB (M : Mem) (f : Nat) (φ : Nat → Int64) : gE (wB M f φ) = gE M := rfl
theorem gB_sB (M : Mem) (f a : Nat) (v : Int64) (f1 a1 : Nat) : gB (sB M f a v) f1 a1 = if f1 = f ∧ a1 = a then v else gB M f1 a1 := rfl
theorem gB_wB (M : Mem) (f : Nat) (φ : Nat → Int64) (f1 : Nat) : gB (wB M f φ) f1 = if f1 = f then φ else gB M f1 := rfl
theorem sB_wB (M : Mem) (f : Nat) (φ : Nat → Int64) (a : Nat) (v : Int64) : sB (wB M f φ) f a v = wB M f (ud φ a v) := by
  refine congrArg (fun z => mk (gK M) (gN M) (gI M) (gJ M) (gR M) (gA M) z (gO M) (gH M) (gS M) (gE M)) ?_
  funext x y
  by_cases h : x = f
  · subst h
    simp [up2, ud, gB_wB]
  · simp [up2, ud, gB_wB, h]
theorem sB_wB_ne (M : Mem) (f f1 : Nat) (φ : Nat → Int64) (a : Nat) (v : Int64) (h : f1 ≠ f) : sB (wB M f φ) f1 a v = wB (sB M f1 a v) f φ := by
  refine congrArg (fun z => mk (gK M) (gN M) (gI M) (gJ M) (gR M) (gA M) z (gO M) (gH M) (gS M) (gE M)) ?_
  funext x y
  by_cases h2 : x = f
  · subst h2
    simp [up2, gB_wB, Ne.symm h]
  · simp [up2, gB_wB, gB_sB, h2]
theorem wB_self (M : Mem) (f : Nat) : wB M f (gB M f) = M := by
  refine (congrArg (fun z => mk (gK M) (gN M) (gI M) (gJ M) (gR M) (gA M) z (gO M) (gH M) (gS M) (gE M)) ?_ : _ = mk (gK M) (gN M) (gI M) (gJ M) (gR M) (gA M) (gB M) (gO M) (gH M) (gS M) (gE M))
  funext x
  by_cases h : x = f
  · subst h
    simp
  · simp [h]
theorem wB_wB (M : Mem) (f : Nat) (φ ψ : Nat → Int64) : wB (wB M f φ) f ψ = wB M f ψ := by
  refine congrArg (fun z => mk (gK M) (gN M) (gI M) (gJ M) (gR M) (gA M) z (gO M) (gH M) (gS M) (gE M)) ?_
  funext x
  by_cases h : x = f
  · subst h
    simp [gB_wB]
  · simp [h, gB_wB]
theorem sB_wI (M : Mem) (f : Nat) (φ : Nat → Int32) (f1 a : Nat) (v : Int64) : sB (wI M f φ) f1 a v = wI (sB M f1 a v) f φ := rfl
theorem sB_wJ (M : Mem) (f : Nat) (φ : Nat → Int64) (f1 a : Nat) (v : Int64) : sB (wJ M f φ) f1 a v = wJ (sB M f1 a v) f φ := rfl
theorem sB_wR (M : Mem) (f : Nat) (φ : Nat → Option Nat) (f1 a : Nat) (v : Int64) : sB (wR M f φ) f1 a v = wR (sB M f1 a v) f φ := rfl
theorem sB_wA (M : Mem) (f : Nat) (φ : Nat → Int32) (f1 a : Nat) (v : Int64) : sB (wA M f φ) f1 a v = wA (sB M f1 a v) f φ := rfl
theorem sB_wO (M : Mem) (f : Nat) (φ : Nat → Option Nat) (f1 a : Nat) (v : Int64) : sB (wO M f φ) f1 a v = wO (sB M f1 a v) f φ := rfl
theorem gK_sO (M : Mem) (f a : Nat) (v : Option Nat) : gK (sO M f a v) = gK M := rfl
theorem gK_wO (M : Mem) (f : Nat) (φ : Nat → Option Nat) : gK (wO M f φ) = gK M := rfl
theorem gN_sO (M : Mem) (f a : Nat) (v : Option Nat) : gN (sO M f a v) = gN M := rfl
theorem gN_wO (M : Mem) (f : Nat) (φ : Nat → Option Nat) : gN (wO M f φ) = gN M := rfl
theorem gI_sO (M : Mem) (f a : Nat) (v : Option Nat) : gI (sO M f a v) = gI M := rfl
theorem gI_wO (M : Mem) (f : Nat) (φ : Nat → Option Nat) : gI (wO M f φ) = gI M := rfl
theorem gJ_sO (M : Mem) (f a : Nat) (v : Option Nat) : gJ (sO M f a v) = gJ M := rfl
theorem gJ_wO (M : Mem) (f : Nat) (φ : Nat → Option Nat) : gJ (wO M f φ) = gJ M := rfl
theorem gR_sO (M : Mem) (f a : Nat) (v : Option Nat) : gR (sO M f a v) = gR M := rfl
theorem gR_wO (M : Mem) (f : Nat) (φ : Nat → Option Nat) : gR (wO M f φ) = gR M := rfl
theorem gA_sO (M : Mem) (f a : Nat) (v : Option Nat) : gA (sO M f a v) = gA M := rfl
theorem gA_wO (M : Mem) (f : Nat) (φ : Nat → Option Nat) : gA (wO M f φ) = gA M := rfl
theorem gB_sO (M : Mem) (f a : Nat) (v : Option Nat) : gB (sO M f a v) = gB M := rfl
theorem gB_wO (M : Mem) (f : Nat) (φ : Nat → Option Nat) : gB (wO M f φ) = gB M := rfl
theorem gH_sO (M : Mem) (f a : Nat) (v : Option Nat) : gH (sO M f a v) = gH M := rfl
theorem gH_wO (M : Mem) (f : Nat) (φ : Nat → Option Nat) : gH (wO M f φ) = gH M := rfl
theorem gS_sO (M : Mem) (f a : Nat) (v : Option Nat) : gS (sO M f a v) = gS M := rfl
theorem gS_wO (M : Mem) (f : Nat) (φ : Nat → Option Nat) : gS (wO M f φ) = gS M := rfl
theorem gE_sO (M : Mem) (f a : Nat) (v : Option Nat) : gE (sO M f a v) = gE M := rfl
theorem gE_wO (M : Mem) (f : Nat) (φ : Nat → Option Nat) : gE (wO M f φ) = gE M := rfl
theorem gO_sO (M : Mem) (f a : Nat) (v : Option Nat) (f1 a1 : Nat) : gO (sO M f a v) f1 a1 = if f1 = f ∧ a1 = a then v else gO M f1 a1 := rfl
theorem gO_wO (M : Mem) (f : Nat) (φ : Nat → Option Nat) (f1 : Nat) : gO (wO M f φ) f1 = if f1 = f then φ else gO M f1 := rfl
theorem sO_wO (M : Mem) (f : Nat) (φ : Nat → Option Nat) (a : Nat) (v : Option Nat) : sO (wO M f φ) f a v = wO M f (ud φ a v) := by
  refine congrArg (fun z => mk (gK M) (gN M) (gI M) (gJ M) (gR M) (gA M) (gB M) z (gH M) (gS M) (gE M)) ?_
  funext x y
  by_cases h : x = f
  · subst h
    simp [up2, ud, gO_wO]
  · simp [up2, ud, gO_wO, h]
theorem sO_wO_ne (M : Mem) (f f1 : Nat) (φ : Nat → Option Nat) (a : Nat) (v : Option Nat) (h : f1 ≠ f) : sO (wO M f φ) f1 a v = wO (sO M f1 a v) f φ := by
  refine congrArg (fun z => mk (gK M) (gN M) (gI M) (gJ M) (gR M) (gA M) (gB M) z (gH M) (gS M) (gE M)) ?_
  funext x y
  by_cases h2 : x = f
  · subst h2
    simp [up2, gO_wO, Ne.symm h]
  · simp [up2, gO_wO, gO_sO, h2]
theorem wO_self (M : Mem) (f : Nat) : wO M f (gO M f) = M := by
  refine (congrArg (fun z => mk (gK M) (gN M) (gI M) (gJ M) (gR M) (gA M) (gB M) z (gH M) (gS M) (gE M)) ?_ : _ = mk (gK M) (gN M) (gI M) (gJ M) (gR M) (gA M) (gB M) (gO M) (gH M) (gS M) (gE M))
  funext x
  by_cases h : x = f
  · subst h
    simp
  · simp [h]
theorem wO_wO (M : Mem) (f : Nat) (φ ψ : Nat → Option Nat) : wO (wO M f φ) f ψ = wO M f ψ := by
  refine congrArg (fun z => mk (gK M) (gN M) (gI M) (gJ M) (gR M) (gA M) (gB M) z (gH M) (gS M) (gE M)) ?_
  funext x
  by_cases h : x = f
  · subst h
    simp [gO_wO]
  · simp [h, gO_wO]
theorem sO_wI (M : Mem) (f : Nat) (φ : Nat → Int32) (f1 a : Nat) (v : Option Nat) : sO (wI M f φ) f1 a v = wI (sO M f1 a v) f φ := rfl
theorem sO_wJ (M : Mem) (f : Nat) (φ : Nat → Int64) (f1 a : Nat) (v : Option Nat) : sO (wJ M f φ) f1 a v = wJ (sO M f1 a v) f φ := rfl
theorem sO_wR (M : Mem) (f : Nat) (φ : Nat → Option Nat) (f1 a : Nat) (v : Option Nat) : sO (wR M f φ) f1 a v = wR (sO M f1 a v) f φ := rfl
theorem sO_wA (M : Mem) (f : Nat) (φ : Nat → Int32) (f1 a : Nat) (v : Option Nat) : sO (wA M f φ) f1 a v = wA (sO M f1 a v) f φ := rfl
theorem sO_wB (M : Mem) (f : Nat) (φ : Nat → Int64) (f1 a : Nat) (v : Option Nat) : sO (wB M f φ) f1 a v = wB (sO M f1 a v) f φ := rfl
/-- the program comes to an end, and what it ends with is so -/
def Ok {β : Type} (o : Option β) (Q : β → Prop) : Prop := ∃ b, o = some b ∧ Q b
theorem Ok.some {β : Type} {b : β} {Q : β → Prop} (h : Q b) : Ok (some b) Q := ⟨b, rfl, h⟩
theorem Ok.mono {β : Type} {o : Option β} {Q Q1 : β → Prop} (h : Ok o Q) (k : ∀ b, Q b → Q1 b) : Ok o Q1 := let ⟨b, e, q⟩ := h; ⟨b, e, k b q⟩
theorem Ok.eq {β : Type} {o : Option β} {b : β} (h : Ok o (fun x => x = b)) : o = Option.some b := by
  obtain ⟨x, e, rfl⟩ := h
  exact e
theorem Ok.of {β : Type} {o : Option β} {b : β} {Q : β → Prop} (e : o = Option.some b) (h : Q b) : Ok o Q := ⟨b, e, h⟩
theorem ok_some {β : Type} {b : β} {Q : β → Prop} : Ok (some b) Q ↔ Q b := ⟨fun ⟨x, e, h⟩ => by cases e; exact h, fun h => ⟨b, rfl, h⟩⟩
theorem ok_grd {β : Type} {p : Prop} [Decidable p] {k : Option β} {Q : β → Prop} : Ok (grd p k) Q ↔ p ∧ Ok k Q := by
  unfold grd Ok
  by_cases h : p
  · simp [h]
  · simp [h]
theorem ok_bnd {α β : Type} {a : α} {k : α → Option β} {Q : β → Prop} : Ok (bnd a k) Q ↔ Ok (k a) Q := Iff.rfl
theorem ok_cl {ρ β : Type} {o : Option (Mem × ρ)} {k : Mem → ρ → Option β} {Q : β → Prop} : Ok (cl o k) Q ↔ Ok o (fun q => Ok (k q.1 q.2) Q) := by
  cases o with
  | none => exact ⟨fun h => (let ⟨_, e, _⟩ := h; by cases e), fun h => (let ⟨_, e, _⟩ := h; by cases e)⟩
  | some q => exact (ok_some (Q := fun (q : Mem × ρ) => Ok (k q.1 q.2) Q)).symm
theorem ok_nn {β : Type} {a : Nat} {k : Nat → Option β} {Q : β → Prop} : Ok (nn (some a) k) Q ↔ Ok (k a) Q := Iff.rfl
theorem ok_lr {β : Type} {a : Nat} {K : Nat → Nat} {c : Nat} {k : Nat → Option β} {Q : β → Prop} : Ok (lr (some a) K c k) Q ↔ K a = c ∧ Ok (k a) Q := ok_grd
theorem ok_if {β : Type} {p : Prop} [Decidable p] {a b : Option β} {Q : β → Prop} : Ok (if p then a else b) Q ↔ (p → Ok a Q) ∧ (¬ p → Ok b Q) := by
  by_cases h : p
  · simp [h]
  · simp [h]
theorem cl_some {ρ β : Type} {q : Mem × ρ} {k : Mem → ρ → Option β} : cl (some q) k = k q.1 q.2 := rfl
theorem lr_some {β : Type} {a : Nat} {K : Nat → Nat} {c : Nat} {k : Nat → Option β} (h : K a = c) : lr (some a) K c k = k a := if_pos h
theorem grd_pos {β : Type} {p : Prop} [Decidable p] {k : Option β} (h : p) : grd p k = k := if_pos h
-- ===== indices =====
theorem ofN_ix {n : Nat} (h : n < 2147483648) : ixn (Int32.ofNat n) = n := Int32.toNatClampNeg_ofNat_of_lt h
theorem ofN_toInt {n : Nat} (h : n < 2147483648) : (Int32.ofNat n).toInt = n := Int32.toInt_ofNat_of_lt h
theorem ofN_inb {n m : Nat} (h : n < 2147483648) (h2 : n < m) : inb (Int32.ofNat n) m := by
  unfold inb
  rw [ofN_toInt h]
  omega
theorem ofN_succ {n : Nat} : Int32.ofNat n + 1 = Int32.ofNat (n + 1) := by simp [Int32.ofNat_add]
theorem ofN_le {n m : Nat} (h : n < 2147483648) (h2 : m < 2147483648) : Int32.ofNat n ≤ Int32.ofNat m ↔ n ≤ m := by
  rw [Int32.le_iff_toInt_le, ofN_toInt h, ofN_toInt h2]
  omega
theorem ofN_lt {n m : Nat} (h : n < 2147483648) (h2 : m < 2147483648) : Int32.ofNat n < Int32.ofNat m ↔ n < m := by
  rw [Int32.lt_iff_toInt_lt, ofN_toInt h, ofN_toInt h2]
  omega
theorem i32_add {x y : Int32} (h : -2147483648 ≤ x.toInt + y.toInt) (h2 : x.toInt + y.toInt < 2147483648) : (x + y).toInt = x.toInt + y.toInt := by
  rw [Int32.toInt_add, Int.bmod_def]
  omega
theorem i32_sub {x y : Int32} (h : -2147483648 ≤ x.toInt - y.toInt) (h2 : x.toInt - y.toInt < 2147483648) : (x - y).toInt = x.toInt - y.toInt := by
  rw [Int32.toInt_sub, Int.bmod_def]
  omega
theorem i32_mul {x y : Int32} (h : -2147483648 ≤ x.toInt * y.toInt) (h2 : x.toInt * y.toInt < 2147483648) : (x * y).toInt = x.toInt * y.toInt := by
  rw [Int32.toInt_mul, Int.bmod_def]
  omega
theorem i64_add {x y : Int64} (h : -9223372036854775808 ≤ x.toInt + y.toInt) (h2 : x.toInt + y.toInt < 9223372036854775808) : (x + y).toInt = x.toInt + y.toInt := by
  rw [Int64.toInt_add, Int.bmod_def]
  omega
theorem i64_sub {x y : Int64} (h : -9223372036854775808 ≤ x.toInt - y.toInt) (h2 : x.toInt - y.toInt < 9223372036854775808) : (x - y).toInt = x.toInt - y.toInt := by
  rw [Int64.toInt_sub, Int.bmod_def]
  omega
theorem i64_mul {x y : Int64} (h : -9223372036854775808 ≤ x.toInt * y.toInt) (h2 : x.toInt * y.toInt < 9223372036854775808) : (x * y).toInt = x.toInt * y.toInt := by
  rw [Int64.toInt_mul, Int.bmod_def]
  omega
theorem one_ne : ((1 : Int32) = 0) = False := by decide
theorem bneg_one : ((0 : Int32) = 1) = False := by decide
theorem bz : ((0 : Int32) = 0) = True := by decide
theorem bo : ((1 : Int32) = 1) = True := by decide
theorem i32_ext {x y : Int32} (h : x.toInt = y.toInt) : x = y := Int32.toInt_inj.mp h
theorem i64_ext {x y : Int64} (h : x.toInt = y.toInt) : x = y := Int64.toInt_inj.mp h
