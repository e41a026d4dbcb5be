/-- two numbers worked out (the model's codes) -/
def twoS (code : Int32) (a b : Int64) : Int64 :=
  if code.toInt = 20 then a + b else if code.toInt = 21 then a - b else if code.toInt = 22 then a * b else if code.toInt = 23 then (if b = 0 then 0 else a / b) else if code.toInt = 24 then (if a < b then 1 else 0) else if code.toInt = 25 then (if a = b then 1 else 0) else (if b < a then 1 else 0)
theorem m_two (M : Mem) {code : Int32} (h1 : 20 ≤ code.toInt) (h2 : code.toInt ≤ 26) (a b : Int64) : F_X12_two M code a b = some (M, twoS code a b) := by
  unfold F_X12_two swi twoS
  rw [if_neg (by omega)]
  rcases (show code.toInt = 20 ∨ code.toInt = 21 ∨ code.toInt = 22 ∨ code.toInt = 23 ∨ code.toInt = 24 ∨ code.toInt = 25 ∨ code.toInt = 26 by omega) with h | h | h | h | h | h | h
  · rw [h]
    rfl
  · rw [h]
    rfl
  · rw [h]
    rfl
  · rw [h]
    show (if lg_cmp b 0 = 0 then F_X12_two_p65 M 0 else grd (¬ b = 0) (F_X12_two_p65 M (a / b))) = some (M, if b = 0 then 0 else a / b)
    by_cases hb : b = 0
    · rw [if_pos ((lg_cmp_eq _ _).mpr hb), if_pos hb]
      rfl
    · rw [if_neg (fun h => hb ((lg_cmp_eq _ _).mp h)), if_neg hb, grd_pos hb]
      rfl
  · rw [h]
    show (if 0 ≤ lg_cmp a b then F_X12_two_p77 M 0 else F_X12_two_p77 M 1) = some (M, if a < b then 1 else 0)
    by_cases hb : a < b
    · rw [if_neg (fun h => absurd ((lg_cmp_ge _ _).mp h) (Int64.not_le.mpr hb)), if_pos hb]
      rfl
    · rw [if_pos ((lg_cmp_ge _ _).mpr (Int64.not_lt.mp hb)), if_neg hb]
      rfl
  · rw [h]
    show (if lg_cmp a b = 0 then F_X12_two_p89 M 1 else F_X12_two_p89 M 0) = some (M, if a = b then 1 else 0)
    by_cases hb : a = b
    · rw [if_pos ((lg_cmp_eq _ _).mpr hb), if_pos hb]
      rfl
    · rw [if_neg (fun h => hb ((lg_cmp_eq _ _).mp h)), if_neg hb]
      rfl
  · rw [h]
    show (if lg_cmp a b ≤ 0 then F_X12_two_p101 M 0 else F_X12_two_p101 M 1) = some (M, if b < a then 1 else 0)
    by_cases hb : b < a
    · rw [if_neg (fun h => absurd ((lg_cmp_le _ _).mp h) (Int64.not_le.mpr hb)), if_pos hb]
      rfl
    · rw [if_pos ((lg_cmp_le _ _).mpr (Int64.not_lt.mp hb)), if_neg hb]
      rfl
/-- is a code a number or a letter -/
def psh (c : Int32) : Prop := (1000 ≤ c.toInt ∧ c.toInt ≤ 100999) ∨ (0 ≤ c.toInt ∧ c.toInt < 9)
def opr (c : Int32) : Prop := 20 ≤ c.toInt ∧ c.toInt ≤ 26
/-- r codes from place j on, with n numbers laid, leave one -/
def okC (co : Nat → Int32) : Nat → Nat → Nat → Prop
  | 0, _, n => n = 1
  | r + 1, j, n => (psh (co j) ∧ n < 60 ∧ okC co r (j + 1) (n + 1)) ∨ (opr (co j) ∧ 2 ≤ n ∧ n ≤ 60 ∧ okC co r (j + 1) (n - 1))
/-- the stack after r codes from place j on -/
def runC (co : Nat → Int32) (nm : Nat → Int64) : Nat → Nat → Nat → (Nat → Int64) → (Nat → Int64)
  | 0, _, _, s => s
  | r + 1, j, n, s => if 1000 ≤ (co j).toInt then runC co nm r (j + 1) (n + 1) (ud s n ((co j - (1000 : Int32)).toInt64)) else if (co j).toInt < 9 then runC co nm r (j + 1) (n + 1) (ud s n (nm (ixn (co j)))) else runC co nm r (j + 1) (n - 1) (ud s (n - 2) (clampS (twoS (co j) (s (n - 2)) (s (n - 1)))))
