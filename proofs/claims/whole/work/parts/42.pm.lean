/-- an hour's memory of the class: rings' heat, warmth, flow, bores' given, the totals, letters and stack -/
def PM (M : Mem) (x p : Nat) (φ2 φ3 φ4 φg : Nat → Int64) (t l s : Nat → Int64) : Mem := mk (gK M) (gN M) (gI M) (fun f => if f = 502 then φ2 else if f = 503 then φ3 else if f = 504 then φ4 else if f = 110 then φg else gJ M f) (gR M) (gA M) (fun a => if a = x + 11 then l else if a = x + 12 then s else if a = p + 2 then t else gB M a) (gO M) (gH M) (gS M) (gE M)
theorem gK_PM (M : Mem) (x p : Nat) (φ2 φ3 φ4 φg : Nat → Int64) (t l s : Nat → Int64) : gK (PM M x p φ2 φ3 φ4 φg t l s) = gK M := rfl
theorem gN_PM (M : Mem) (x p : Nat) (φ2 φ3 φ4 φg : Nat → Int64) (t l s : Nat → Int64) : gN (PM M x p φ2 φ3 φ4 φg t l s) = gN M := rfl
theorem gI_PM (M : Mem) (x p : Nat) (φ2 φ3 φ4 φg : Nat → Int64) (t l s : Nat → Int64) : gI (PM M x p φ2 φ3 φ4 φg t l s) = gI M := rfl
theorem gR_PM (M : Mem) (x p : Nat) (φ2 φ3 φ4 φg : Nat → Int64) (t l s : Nat → Int64) : gR (PM M x p φ2 φ3 φ4 φg t l s) = gR M := rfl
theorem gA_PM (M : Mem) (x p : Nat) (φ2 φ3 φ4 φg : Nat → Int64) (t l s : Nat → Int64) : gA (PM M x p φ2 φ3 φ4 φg t l s) = gA M := rfl
theorem gO_PM (M : Mem) (x p : Nat) (φ2 φ3 φ4 φg : Nat → Int64) (t l s : Nat → Int64) : gO (PM M x p φ2 φ3 φ4 φg t l s) = gO M := rfl
theorem gH_PM (M : Mem) (x p : Nat) (φ2 φ3 φ4 φg : Nat → Int64) (t l s : Nat → Int64) : gH (PM M x p φ2 φ3 φ4 φg t l s) = gH M := rfl
theorem gS_PM (M : Mem) (x p : Nat) (φ2 φ3 φ4 φg : Nat → Int64) (t l s : Nat → Int64) : gS (PM M x p φ2 φ3 φ4 φg t l s) = gS M := rfl
theorem gE_PM (M : Mem) (x p : Nat) (φ2 φ3 φ4 φg : Nat → Int64) (t l s : Nat → Int64) : gE (PM M x p φ2 φ3 φ4 φg t l s) = gE M := rfl
theorem gJ_PM (M : Mem) (x p : Nat) (φ2 φ3 φ4 φg : Nat → Int64) (t l s : Nat → Int64) (f : Nat) : gJ (PM M x p φ2 φ3 φ4 φg t l s) f = if f = 502 then φ2 else if f = 503 then φ3 else if f = 504 then φ4 else if f = 110 then φg else gJ M f := rfl
theorem gB_PM (M : Mem) (x p : Nat) (φ2 φ3 φ4 φg : Nat → Int64) (t l s : Nat → Int64) (a : Nat) : gB (PM M x p φ2 φ3 φ4 φg t l s) a = if a = x + 11 then l else if a = x + 12 then s else if a = p + 2 then t else gB M a := rfl
theorem PM_502 (M : Mem) (x p : Nat) (φ2 φ3 φ4 φg : Nat → Int64) (t l s : Nat → Int64) : gJ (PM M x p φ2 φ3 φ4 φg t l s) 502 = φ2 := rfl
theorem PM_503 (M : Mem) (x p : Nat) (φ2 φ3 φ4 φg : Nat → Int64) (t l s : Nat → Int64) : gJ (PM M x p φ2 φ3 φ4 φg t l s) 503 = φ3 := rfl
theorem PM_504 (M : Mem) (x p : Nat) (φ2 φ3 φ4 φg : Nat → Int64) (t l s : Nat → Int64) : gJ (PM M x p φ2 φ3 φ4 φg t l s) 504 = φ4 := rfl
theorem PM_110 (M : Mem) (x p : Nat) (φ2 φ3 φ4 φg : Nat → Int64) (t l s : Nat → Int64) : gJ (PM M x p φ2 φ3 φ4 φg t l s) 110 = φg := rfl
theorem PM_500 (M : Mem) (x p : Nat) (φ2 φ3 φ4 φg : Nat → Int64) (t l s : Nat → Int64) : gJ (PM M x p φ2 φ3 φ4 φg t l s) 500 = gJ M 500 := rfl
theorem PM_501 (M : Mem) (x p : Nat) (φ2 φ3 φ4 φg : Nat → Int64) (t l s : Nat → Int64) : gJ (PM M x p φ2 φ3 φ4 φg t l s) 501 = gJ M 501 := rfl
theorem PM_l (M : Mem) (x p : Nat) (φ2 φ3 φ4 φg : Nat → Int64) (t l s : Nat → Int64) : gB (PM M x p φ2 φ3 φ4 φg t l s) (x + 11) = l := if_pos rfl
theorem PM_s (M : Mem) (x p : Nat) (φ2 φ3 φ4 φg : Nat → Int64) (t l s : Nat → Int64) : gB (PM M x p φ2 φ3 φ4 φg t l s) (x + 12) = s := by
  rw [gB_PM, if_neg (by omega), if_pos rfl]
theorem PM_t (M : Mem) (x p : Nat) (φ2 φ3 φ4 φg : Nat → Int64) (t l s : Nat → Int64) (hp : x + 46 ≤ p) : gB (PM M x p φ2 φ3 φ4 φg t l s) (p + 2) = t := by
  rw [gB_PM, if_neg (by omega), if_neg (by omega), if_pos rfl]
theorem sP502 (M : Mem) (x p : Nat) (φ2 φ3 φ4 φg : Nat → Int64) (t l s : Nat → Int64) (a : Nat) (v : Int64) : sJ (PM M x p φ2 φ3 φ4 φg t l s) 502 a v = PM M x p (ud φ2 a v) φ3 φ4 φg t l s := by
  refine congrArg (fun z => mk (gK M) (gN M) (gI M) z (gR M) (gA M) (gB (PM M x p φ2 φ3 φ4 φg t l s)) (gO M) (gH M) (gS M) (gE M)) ?_
  funext f y
  simp only [up2, gJ_PM]
  by_cases hf : f = 502
  · subst hf
    simp [ud]
  · simp [hf]
theorem sP503 (M : Mem) (x p : Nat) (φ2 φ3 φ4 φg : Nat → Int64) (t l s : Nat → Int64) (a : Nat) (v : Int64) : sJ (PM M x p φ2 φ3 φ4 φg t l s) 503 a v = PM M x p φ2 (ud φ3 a v) φ4 φg t l s := by
  refine congrArg (fun z => mk (gK M) (gN M) (gI M) z (gR M) (gA M) (gB (PM M x p φ2 φ3 φ4 φg t l s)) (gO M) (gH M) (gS M) (gE M)) ?_
  funext f y
  simp only [up2, gJ_PM]
  by_cases hf : f = 503
  · subst hf
    simp [ud]
  · simp [hf]
theorem sP504 (M : Mem) (x p : Nat) (φ2 φ3 φ4 φg : Nat → Int64) (t l s : Nat → Int64) (a : Nat) (v : Int64) : sJ (PM M x p φ2 φ3 φ4 φg t l s) 504 a v = PM M x p φ2 φ3 (ud φ4 a v) φg t l s := by
  refine congrArg (fun z => mk (gK M) (gN M) (gI M) z (gR M) (gA M) (gB (PM M x p φ2 φ3 φ4 φg t l s)) (gO M) (gH M) (gS M) (gE M)) ?_
  funext f y
  simp only [up2, gJ_PM]
  by_cases hf : f = 504
  · subst hf
    simp [ud]
  · simp [hf]
theorem sP110 (M : Mem) (x p : Nat) (φ2 φ3 φ4 φg : Nat → Int64) (t l s : Nat → Int64) (a : Nat) (v : Int64) : sJ (PM M x p φ2 φ3 φ4 φg t l s) 110 a v = PM M x p φ2 φ3 φ4 (ud φg a v) t l s := by
  refine congrArg (fun z => mk (gK M) (gN M) (gI M) z (gR M) (gA M) (gB (PM M x p φ2 φ3 φ4 φg t l s)) (gO M) (gH M) (gS M) (gE M)) ?_
  funext f y
  simp only [up2, gJ_PM]
  by_cases hf : f = 110
  · subst hf
    simp [ud]
  · simp [hf]
theorem sPl (M : Mem) (x p : Nat) (φ2 φ3 φ4 φg : Nat → Int64) (t l s : Nat → Int64) (i : Nat) (v : Int64) : sB (PM M x p φ2 φ3 φ4 φg t l s) (x + 11) i v = PM M x p φ2 φ3 φ4 φg t (ud l i v) s := by
  refine congrArg (fun z => mk (gK M) (gN M) (gI M) (gJ (PM M x p φ2 φ3 φ4 φg t l s)) (gR M) (gA M) z (gO M) (gH M) (gS M) (gE M)) ?_
  funext y j
  simp only [up2, gB_PM]
  by_cases hy : y = (x + 11)
  · subst hy
    simp [ud]
  · simp [hy]
theorem sPs (M : Mem) (x p : Nat) (φ2 φ3 φ4 φg : Nat → Int64) (t l s : Nat → Int64) (i : Nat) (v : Int64) : sB (PM M x p φ2 φ3 φ4 φg t l s) (x + 12) i v = PM M x p φ2 φ3 φ4 φg t l (ud s i v) := by
  refine congrArg (fun z => mk (gK M) (gN M) (gI M) (gJ (PM M x p φ2 φ3 φ4 φg t l s)) (gR M) (gA M) z (gO M) (gH M) (gS M) (gE M)) ?_
  funext y j
  simp only [up2, gB_PM]
  by_cases hy : y = (x + 12)
  · subst hy
    simp [ud]
  · simp [hy]
theorem sPt (M : Mem) (x p : Nat) (φ2 φ3 φ4 φg : Nat → Int64) (t l s : Nat → Int64) (hp : x + 46 ≤ p) (i : Nat) (v : Int64) : sB (PM M x p φ2 φ3 φ4 φg t l s) (p + 2) i v = PM M x p φ2 φ3 φ4 φg (ud t i v) l s := by
  refine congrArg (fun z => mk (gK M) (gN M) (gI M) (gJ (PM M x p φ2 φ3 φ4 φg t l s)) (gR M) (gA M) z (gO M) (gH M) (gS M) (gE M)) ?_
  funext y j
  simp only [up2, gB_PM]
  by_cases hy : y = (p + 2)
  · subst hy
    simp [ud, show ¬ p = x + 9 by omega, show ¬ p = x + 10 by omega]
  · simp [hy]
theorem PM_PM (M : Mem) (x p : Nat) (φ2 φ3 φ4 φg : Nat → Int64) (t l s : Nat → Int64) (ψ2 ψ3 ψ4 ψg t1 l1 s1 : Nat → Int64) : PM (PM M x p φ2 φ3 φ4 φg t l s) x p ψ2 ψ3 ψ4 ψg t1 l1 s1 = PM M x p ψ2 ψ3 ψ4 ψg t1 l1 s1 := by
  refine (congrArg (fun z => mk (gK M) (gN M) (gI M) z.1 (gR M) (gA M) z.2 (gO M) (gH M) (gS M) (gE M)) (Prod.ext ?_ ?_ : (gJ (PM (PM M x p φ2 φ3 φ4 φg t l s) x p ψ2 ψ3 ψ4 ψg t1 l1 s1), gB (PM (PM M x p φ2 φ3 φ4 φg t l s) x p ψ2 ψ3 ψ4 ψg t1 l1 s1)) = (gJ (PM M x p ψ2 ψ3 ψ4 ψg t1 l1 s1), gB (PM M x p ψ2 ψ3 ψ4 ψg t1 l1 s1))) : _)
  · funext f
    simp only [gJ_PM]
    by_cases h1 : f = 502
    · simp [h1]
    · by_cases h2 : f = 503
      · simp [h2]
      · by_cases h3 : f = 504
        · simp [h3]
        · by_cases h4 : f = 110
          · simp [h4]
          · simp [h1, h2, h3, h4]
  · funext a
    simp only [gB_PM]
    by_cases h1 : a = x + 11
    · simp [h1]
    · by_cases h2 : a = x + 12
      · simp [h2]
      · by_cases h3 : a = p + 2
        · simp [h3]
        · simp [h1, h2, h3]
theorem PM_self (M : Mem) (x p : Nat) : PM M x p (gJ M 502) (gJ M 503) (gJ M 504) (gJ M 110) (gB M (p + 2)) (gB M (x + 11)) (gB M (x + 12)) = M := by
  refine (congrArg (fun z => mk (gK M) (gN M) (gI M) z.1 (gR M) (gA M) z.2 (gO M) (gH M) (gS M) (gE M)) (Prod.ext ?_ ?_ : (gJ (PM M x p (gJ M 502) (gJ M 503) (gJ M 504) (gJ M 110) (gB M (p + 2)) (gB M (x + 11)) (gB M (x + 12))), gB (PM M x p (gJ M 502) (gJ M 503) (gJ M 504) (gJ M 110) (gB M (p + 2)) (gB M (x + 11)) (gB M (x + 12)))) = (gJ M, gB M)) : _ = mk (gK M) (gN M) (gI M) (gJ M) (gR M) (gA M) (gB M) (gO M) (gH M) (gS M) (gE M))
  · funext f
    simp only [gJ_PM]
    by_cases h1 : f = 502
    · simp [h1]
    · by_cases h2 : f = 503
      · simp [h2]
      · by_cases h3 : f = 504
        · simp [h3]
        · by_cases h4 : f = 110
          · simp [h4]
          · simp [h1, h2, h3, h4]
  · funext a
    simp only [gB_PM]
    by_cases h1 : a = x + 11
    · simp [h1]
    · by_cases h2 : a = x + 12
      · simp [h2]
      · by_cases h3 : a = p + 2
        · subst h3
          rw [if_neg h1, if_neg h2, if_pos rfl]
        · simp [h1, h2, h3]
theorem sI_PM (M : Mem) (x p : Nat) (φ2 φ3 φ4 φg : Nat → Int64) (t l s : Nat → Int64) (f a : Nat) (v : Int32) : sI (PM M x p φ2 φ3 φ4 φg t l s) f a v = PM (sI M f a v) x p φ2 φ3 φ4 φg t l s := rfl
theorem cshPM {x : Nat} {M : Mem} (hC : CSh x M) (p : Nat) (φ2 φ3 φ4 φg : Nat → Int64) (t l s : Nat → Int64) : CSh x (PM M x p φ2 φ3 φ4 φg t l s) := hC
