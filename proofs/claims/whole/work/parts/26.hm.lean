/-- an hour's memory: the model's rows of heat, given, told and scratch -/
def HM (o : Nat) (M : Mem) (h g t : Nat → Int64) (q : Nat → Nat → Int64) : Mem := mk (gK M) (gN M) (gI M) (gJ M) (gR M) (gA M) (fun a => if a = o + 11 then h else if a = o + 12 then g else if a = o + 13 then t else if o + 32 ≤ a ∧ a ≤ o + 38 then q a else gB M a) (gO M) (gH M) (gS M) (gE M)
theorem up2_s {α : Type} (f : Nat → Nat → α) (a i : Nat) (v : α) : up2 f a i v a = ud (f a) i v := by
  funext x
  simp [up2, ud]
theorem up2_n {α : Type} (f : Nat → Nat → α) {a b : Nat} (h : ¬ b = a) (i : Nat) (v : α) : up2 f a i v b = f b := by
  funext x
  simp [up2, h]
theorem ud_s {α : Type} (f : Nat → α) (i : Nat) (v : α) : ud f i v i = v := if_pos rfl
theorem ud_n {α : Type} (f : Nat → α) {i j : Nat} (h : ¬ j = i) (v : α) : ud f i v j = f j := if_neg h
theorem gK_HM (o : Nat) (M : Mem) (h g t : Nat → Int64) (q : Nat → Nat → Int64) : gK (HM o M h g t q) = gK M := rfl
theorem gN_HM (o : Nat) (M : Mem) (h g t : Nat → Int64) (q : Nat → Nat → Int64) : gN (HM o M h g t q) = gN M := rfl
theorem gI_HM (o : Nat) (M : Mem) (h g t : Nat → Int64) (q : Nat → Nat → Int64) : gI (HM o M h g t q) = gI M := rfl
theorem gJ_HM (o : Nat) (M : Mem) (h g t : Nat → Int64) (q : Nat → Nat → Int64) : gJ (HM o M h g t q) = gJ M := rfl
theorem gR_HM (o : Nat) (M : Mem) (h g t : Nat → Int64) (q : Nat → Nat → Int64) : gR (HM o M h g t q) = gR M := rfl
theorem gA_HM (o : Nat) (M : Mem) (h g t : Nat → Int64) (q : Nat → Nat → Int64) : gA (HM o M h g t q) = gA M := rfl
theorem gO_HM (o : Nat) (M : Mem) (h g t : Nat → Int64) (q : Nat → Nat → Int64) : gO (HM o M h g t q) = gO M := rfl
theorem gH_HM (o : Nat) (M : Mem) (h g t : Nat → Int64) (q : Nat → Nat → Int64) : gH (HM o M h g t q) = gH M := rfl
theorem gS_HM (o : Nat) (M : Mem) (h g t : Nat → Int64) (q : Nat → Nat → Int64) : gS (HM o M h g t q) = gS M := rfl
theorem gE_HM (o : Nat) (M : Mem) (h g t : Nat → Int64) (q : Nat → Nat → Int64) : gE (HM o M h g t q) = gE M := rfl
theorem gB_HM (o : Nat) (M : Mem) (h g t : Nat → Int64) (q : Nat → Nat → Int64) (a : Nat) : gB (HM o M h g t q) a = if a = o + 11 then h else if a = o + 12 then g else if a = o + 13 then t else if o + 32 ≤ a ∧ a ≤ o + 38 then q a else gB M a := rfl
theorem HM_11 (o : Nat) (M : Mem) (h g t : Nat → Int64) (q : Nat → Nat → Int64) : gB (HM o M h g t q) (o + 11) = h := if_pos rfl
theorem HM_12 (o : Nat) (M : Mem) (h g t : Nat → Int64) (q : Nat → Nat → Int64) : gB (HM o M h g t q) (o + 12) = g := by
  rw [gB_HM, if_neg (by omega), if_pos rfl]
theorem HM_13 (o : Nat) (M : Mem) (h g t : Nat → Int64) (q : Nat → Nat → Int64) : gB (HM o M h g t q) (o + 13) = t := by
  rw [gB_HM, if_neg (by omega), if_neg (by omega), if_pos rfl]
theorem HM_32 (o : Nat) (M : Mem) (h g t : Nat → Int64) (q : Nat → Nat → Int64) : gB (HM o M h g t q) (o + 32) = q (o + 32) := by
  rw [gB_HM, if_neg (by omega), if_neg (by omega), if_neg (by omega), if_pos (by omega)]
theorem HM_33 (o : Nat) (M : Mem) (h g t : Nat → Int64) (q : Nat → Nat → Int64) : gB (HM o M h g t q) (o + 33) = q (o + 33) := by
  rw [gB_HM, if_neg (by omega), if_neg (by omega), if_neg (by omega), if_pos (by omega)]
theorem HM_34 (o : Nat) (M : Mem) (h g t : Nat → Int64) (q : Nat → Nat → Int64) : gB (HM o M h g t q) (o + 34) = q (o + 34) := by
  rw [gB_HM, if_neg (by omega), if_neg (by omega), if_neg (by omega), if_pos (by omega)]
theorem HM_35 (o : Nat) (M : Mem) (h g t : Nat → Int64) (q : Nat → Nat → Int64) : gB (HM o M h g t q) (o + 35) = q (o + 35) := by
  rw [gB_HM, if_neg (by omega), if_neg (by omega), if_neg (by omega), if_pos (by omega)]
theorem HM_36 (o : Nat) (M : Mem) (h g t : Nat → Int64) (q : Nat → Nat → Int64) : gB (HM o M h g t q) (o + 36) = q (o + 36) := by
  rw [gB_HM, if_neg (by omega), if_neg (by omega), if_neg (by omega), if_pos (by omega)]
theorem HM_37 (o : Nat) (M : Mem) (h g t : Nat → Int64) (q : Nat → Nat → Int64) : gB (HM o M h g t q) (o + 37) = q (o + 37) := by
  rw [gB_HM, if_neg (by omega), if_neg (by omega), if_neg (by omega), if_pos (by omega)]
theorem HM_38 (o : Nat) (M : Mem) (h g t : Nat → Int64) (q : Nat → Nat → Int64) : gB (HM o M h g t q) (o + 38) = q (o + 38) := by
  rw [gB_HM, if_neg (by omega), if_neg (by omega), if_neg (by omega), if_pos (by omega)]
theorem sH11 (o : Nat) (M : Mem) (h g t : Nat → Int64) (q : Nat → Nat → Int64) (i : Nat) (v : Int64) : sB (HM o M h g t q) (o + 11) i v = HM o M (ud h i v) g t q := by
  refine congrArg (fun z => mk (gK M) (gN M) (gI M) (gJ M) (gR M) (gA M) z (gO M) (gH M) (gS M) (gE M)) ?_
  funext x y
  simp only [up2, ud, gB_HM]
  by_cases hx : x = o + 11
  · subst hx
    simp [ud]
  · simp [hx]
theorem sH12 (o : Nat) (M : Mem) (h g t : Nat → Int64) (q : Nat → Nat → Int64) (i : Nat) (v : Int64) : sB (HM o M h g t q) (o + 12) i v = HM o M h (ud g i v) t q := by
  refine congrArg (fun z => mk (gK M) (gN M) (gI M) (gJ M) (gR M) (gA M) z (gO M) (gH M) (gS M) (gE M)) ?_
  funext x y
  simp only [up2, ud, gB_HM]
  by_cases hx : x = o + 12
  · subst hx
    simp [ud]
  · simp [hx]
theorem sH13 (o : Nat) (M : Mem) (h g t : Nat → Int64) (q : Nat → Nat → Int64) (i : Nat) (v : Int64) : sB (HM o M h g t q) (o + 13) i v = HM o M h g (ud t i v) q := by
  refine congrArg (fun z => mk (gK M) (gN M) (gI M) (gJ M) (gR M) (gA M) z (gO M) (gH M) (gS M) (gE M)) ?_
  funext x y
  simp only [up2, ud, gB_HM]
  by_cases hx : x = o + 13
  · subst hx
    simp [ud]
  · simp [hx]
theorem sH32 (o : Nat) (M : Mem) (h g t : Nat → Int64) (q : Nat → Nat → Int64) (i : Nat) (v : Int64) : sB (HM o M h g t q) (o + 32) i v = HM o M h g t (up2 q (o + 32) i v) := by
  refine congrArg (fun z => mk (gK M) (gN M) (gI M) (gJ M) (gR M) (gA M) z (gO M) (gH M) (gS M) (gE M)) ?_
  funext x y
  simp only [up2, ud, gB_HM]
  by_cases hx : x = o + 32
  · subst hx
    simp [up2]
  · simp [hx, up2_n q hx]
theorem sH33 (o : Nat) (M : Mem) (h g t : Nat → Int64) (q : Nat → Nat → Int64) (i : Nat) (v : Int64) : sB (HM o M h g t q) (o + 33) i v = HM o M h g t (up2 q (o + 33) i v) := by
  refine congrArg (fun z => mk (gK M) (gN M) (gI M) (gJ M) (gR M) (gA M) z (gO M) (gH M) (gS M) (gE M)) ?_
  funext x y
  simp only [up2, ud, gB_HM]
  by_cases hx : x = o + 33
  · subst hx
    simp [up2]
  · simp [hx, up2_n q hx]
theorem sH34 (o : Nat) (M : Mem) (h g t : Nat → Int64) (q : Nat → Nat → Int64) (i : Nat) (v : Int64) : sB (HM o M h g t q) (o + 34) i v = HM o M h g t (up2 q (o + 34) i v) := by
  refine congrArg (fun z => mk (gK M) (gN M) (gI M) (gJ M) (gR M) (gA M) z (gO M) (gH M) (gS M) (gE M)) ?_
  funext x y
  simp only [up2, ud, gB_HM]
  by_cases hx : x = o + 34
  · subst hx
    simp [up2]
  · simp [hx, up2_n q hx]
theorem sH35 (o : Nat) (M : Mem) (h g t : Nat → Int64) (q : Nat → Nat → Int64) (i : Nat) (v : Int64) : sB (HM o M h g t q) (o + 35) i v = HM o M h g t (up2 q (o + 35) i v) := by
  refine congrArg (fun z => mk (gK M) (gN M) (gI M) (gJ M) (gR M) (gA M) z (gO M) (gH M) (gS M) (gE M)) ?_
  funext x y
  simp only [up2, ud, gB_HM]
  by_cases hx : x = o + 35
  · subst hx
    simp [up2]
  · simp [hx, up2_n q hx]
theorem sH36 (o : Nat) (M : Mem) (h g t : Nat → Int64) (q : Nat → Nat → Int64) (i : Nat) (v : Int64) : sB (HM o M h g t q) (o + 36) i v = HM o M h g t (up2 q (o + 36) i v) := by
  refine congrArg (fun z => mk (gK M) (gN M) (gI M) (gJ M) (gR M) (gA M) z (gO M) (gH M) (gS M) (gE M)) ?_
  funext x y
  simp only [up2, ud, gB_HM]
  by_cases hx : x = o + 36
  · subst hx
    simp [up2]
  · simp [hx, up2_n q hx]
theorem sH37 (o : Nat) (M : Mem) (h g t : Nat → Int64) (q : Nat → Nat → Int64) (i : Nat) (v : Int64) : sB (HM o M h g t q) (o + 37) i v = HM o M h g t (up2 q (o + 37) i v) := by
  refine congrArg (fun z => mk (gK M) (gN M) (gI M) (gJ M) (gR M) (gA M) z (gO M) (gH M) (gS M) (gE M)) ?_
  funext x y
  simp only [up2, ud, gB_HM]
  by_cases hx : x = o + 37
  · subst hx
    simp [up2]
  · simp [hx, up2_n q hx]
theorem sH38 (o : Nat) (M : Mem) (h g t : Nat → Int64) (q : Nat → Nat → Int64) (i : Nat) (v : Int64) : sB (HM o M h g t q) (o + 38) i v = HM o M h g t (up2 q (o + 38) i v) := by
  refine congrArg (fun z => mk (gK M) (gN M) (gI M) (gJ M) (gR M) (gA M) z (gO M) (gH M) (gS M) (gE M)) ?_
  funext x y
  simp only [up2, ud, gB_HM]
  by_cases hx : x = o + 38
  · subst hx
    simp [up2]
  · simp [hx, up2_n q hx]
theorem wB_HM (o : Nat) (M : Mem) (h g t : Nat → Int64) (q : Nat → Nat → Int64) (φ : Nat → Int64) : wB (HM o M h g t q) (o + 33) φ = HM o M h g t (ud q (o + 33) φ) := by
  refine congrArg (fun z => mk (gK M) (gN M) (gI M) (gJ M) (gR M) (gA M) z (gO M) (gH M) (gS M) (gE M)) ?_
  funext x
  simp only [ud, gB_HM]
  by_cases hx : x = o + 33
  · subst hx
    simp
  · simp [hx]
theorem HM_self (o : Nat) (M : Mem) : HM o M (gB M (o + 11)) (gB M (o + 12)) (gB M (o + 13)) (gB M) = M := by
  refine (congrArg (fun z => mk (gK M) (gN M) (gI M) (gJ M) (gR M) (gA M) z (gO M) (gH M) (gS M) (gE M)) ?_ : _ = mk (gK M) (gN M) (gI M) (gJ M) (gR M) (gA M) (gB M) (gO M) (gH M) (gS M) (gE M))
  funext x
  by_cases h1 : x = o + 11
  · subst h1
    simp
  · by_cases h2 : x = o + 12
    · subst h2
      simp
    · by_cases h3 : x = o + 13
      · subst h3
        simp
      · simp [h1, h2, h3]
theorem HM_HM (o : Nat) (M : Mem) (h g t h1 g1 t1 : Nat → Int64) (q q1 : Nat → Nat → Int64) : HM o (HM o M h g t q) h1 g1 t1 q1 = HM o M h1 g1 t1 q1 := by
  refine congrArg (fun z => mk (gK M) (gN M) (gI M) (gJ M) (gR M) (gA M) z (gO M) (gH M) (gS M) (gE M)) ?_
  funext x
  by_cases h1 : x = o + 11
  · simp [h1]
  · by_cases h2 : x = o + 12
    · simp [h2]
    · by_cases h3 : x = o + 13
      · simp [h3]
      · by_cases h4 : o + 32 ≤ x ∧ x ≤ o + 38
        · simp [h1, h2, h3, h4]
        · simp only [h1, h2, h3, h4, if_false, gB_HM]
theorem mshHM {o : Nat} {M : Mem} (hS : MSh o M) (h g t : Nat → Int64) (q : Nat → Nat → Int64) : MSh o (HM o M h g t q) := hS
