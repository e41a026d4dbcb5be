theorem m_in (M : Mem) (v lo hi : Int64) : F_X12_in M v lo hi = some (M, if lo ≤ v ∧ v ≤ hi then 1 else 0) := by
  unfold F_X12_in F_X12_in_p17 F_X12_in_p18
  by_cases h1 : v < lo
  · rw [if_pos ((lg_cmp_lt _ _).mpr h1), if_neg (fun h => absurd h.1 (Int64.not_le.mpr h1)), grd_pos (Or.inl rfl)]
  · rw [if_neg (fun h => h1 ((lg_cmp_lt _ _).mp h))]
    by_cases h2 : hi < v
    · rw [if_pos ((lg_cmp_gt _ _).mpr h2), if_neg (fun h => absurd h.2 (Int64.not_le.mpr h2)), grd_pos (Or.inl rfl)]
    · rw [if_neg (fun h => h2 ((lg_cmp_gt _ _).mp h)), if_pos ⟨Int64.not_lt.mp h1, Int64.not_lt.mp h2⟩, grd_pos (Or.inr rfl)]
/-- is b one of n -/
abbrev isB (n : Nat) (b : Int32) : Prop := 0 ≤ b.toInt ∧ b.toInt < n
theorem in_n {n : Nat} (hn : n < 2147483648) (b : Int32) : ((0 : Int64) ≤ b.toInt64 ∧ b.toInt64 ≤ (Int32.ofNat n - (1 : Int32)).toInt64) ↔ isB n b := by
  unfold isB
  have e : (Int32.ofNat n - (1 : Int32)).toInt = (n : Int) - 1 := by
    rw [i32_sub (by rw [ofN_toInt hn]; simp; omega) (by rw [ofN_toInt hn]; simp; omega), ofN_toInt hn]
    rfl
  rw [Int64.le_iff_toInt_le, Int64.le_iff_toInt_le, Int32.toInt_toInt64, Int32.toInt_toInt64, e]
  simp
  omega
theorem m_isBore {o : Nat} {M : Mem} {nb : Nat} (hn : gI M 1302 o = Int32.ofNat nb) (h8 : nb ≤ 8) (b : Int32) : F_X12_isBore M o b = some (M, if isB nb b then 1 else 0) := by
  unfold F_X12_isBore
  rw [m_in, cl_some, hn]
  by_cases h : isB nb b
  · rw [if_pos ((in_n (by omega) b).mpr h), if_pos h]
    exact grd_pos (Or.inr rfl)
  · rw [if_neg (fun k => h ((in_n (by omega) b).mp k)), if_neg h]
    exact grd_pos (Or.inl rfl)
/-- HOLD of ring k of bore b -/
def holdS (hd st : Nat → Int32) (b k : Nat) : Int32 := hd b + Int32.ofNat k * st b
theorem m_holdOf {o : Nat} {M : Mem} (hS : MSh o M) {b : Nat} (hb : b < 8) (k : Nat) : F_X12_holdOf M o (Int32.ofNat b) (Int32.ofNat k) = some (M, holdS (gA M (o + 5)) (gA M (o + 6)) b k) := by
  have h1 : inb (Int32.ofNat b) 8 := ofN_inb (by omega) hb
  have h2 : ixn (Int32.ofNat b) = b := ofN_ix (by omega)
  unfold F_X12_holdOf
  simp only [hS.r1306, hS.r1307, lr_some hS.k5, lr_some hS.k6, hS.n5, hS.n6, grd_pos h1, h2]
  rfl
theorem i8 {b k : Nat} : (8 : Int32) * Int32.ofNat b + Int32.ofNat k = Int32.ofNat (8 * b + k) := by
  rw [show (8 : Int32) = Int32.ofNat 8 from rfl, ofN_mulk, ← Int32.ofNat_add]
/-- warmth of ring k of bore b -/
def warmS (hd st : Nat → Int32) (h : Nat → Int64) (b k : Nat) : Int64 := h (8 * b + k) / (holdS hd st b k).toInt64
theorem m_warmthOf {o : Nat} {M : Mem} (hS : MSh o M) {b k : Nat} (hb : b < 8) (hk : k < 8) (hh : ¬ (holdS (gA M (o + 5)) (gA M (o + 6)) b k).toInt64 = 0) : F_X12_warmthOf M o (Int32.ofNat b) (Int32.ofNat k) = some (M, warmS (gA M (o + 5)) (gA M (o + 6)) (gB M (o + 11)) b k) := by
  have h1 : inb (Int32.ofNat (8 * b + k)) 64 := ofN_inb (by omega) (by omega)
  have h2 : ixn (Int32.ofNat (8 * b + k)) = 8 * b + k := ofN_ix (by omega)
  unfold F_X12_warmthOf
  simp only [i8, hS.r1313, lr_some hS.k11, hS.n11, grd_pos h1, h2, m_holdOf hS hb, cl_some, grd_pos hh]
  rfl
/-- heat of ring k of bore b at first -/
def firstS (hd st fs : Nat → Int32) (b k : Nat) : Int64 := ((1000 : Int64) * (fs b).toInt64) * (holdS hd st b k).toInt64
theorem m_atFirst {o : Nat} {M : Mem} (hS : MSh o M) {b : Nat} (hb : b < 8) (k : Nat) : F_X12_atFirst M o (Int32.ofNat b) (Int32.ofNat k) = some (M, firstS (gA M (o + 5)) (gA M (o + 6)) (gA M (o + 7)) b k) := by
  have h1 : inb (Int32.ofNat b) 8 := ofN_inb (by omega) hb
  have h2 : ixn (Int32.ofNat b) = b := ofN_ix (by omega)
  unfold F_X12_atFirst
  simp only [hS.r1308, lr_some hS.k7, hS.n7, grd_pos h1, h2, m_holdOf hS hb, cl_some]
  rfl
def cutS (v lo hi : Int64) : Int64 := if v < lo then lo else if hi < v then hi else v
theorem m_cut (M : Mem) (v lo hi : Int64) : F_X12_cut M v lo hi = some (M, cutS v lo hi) := by
  unfold F_X12_cut F_X12_cut_p23 cutS
  by_cases h1 : v < lo
  · rw [if_neg (fun h => absurd ((lg_cmp_ge _ _).mp h) (Int64.not_le.mpr h1)), if_pos h1]
  · rw [if_pos ((lg_cmp_ge _ _).mpr (Int64.not_lt.mp h1)), if_neg h1]
    by_cases h2 : hi < v
    · rw [if_neg (fun h => absurd ((lg_cmp_le _ _).mp h) (Int64.not_le.mpr h2)), if_pos h2]
    · rw [if_pos ((lg_cmp_le _ _).mpr (Int64.not_lt.mp h2)), if_neg h2]
def clampS (v : Int64) : Int64 := cutS v (-1000000000 : Int64) (1000000000 : Int64)
theorem m_clamp (M : Mem) (v : Int64) : F_X12_cut M v (-1000000000 : Int64) (1000000000 : Int64) = some (M, clampS v) := m_cut M v _ _
def farS (px py : Nat → Int32) (a b : Nat) : Int32 :=
  if (if px b ≤ px a then px a - px b else px b - px a) ≤ (if py b ≤ py a then py a - py b else py b - py a) then (if py b ≤ py a then py a - py b else py b - py a) else (if px b ≤ px a then px a - px b else px b - px a)
theorem m_farOf {o : Nat} {M : Mem} (hS : MSh o M) {a b : Nat} (ha : a < 8) (hb : b < 8) : F_X12_farOf M o (Int32.ofNat a) (Int32.ofNat b) = some (M, farS (gA M (o + 2)) (gA M (o + 3)) a b) := by
  have h1 : inb (Int32.ofNat b) 8 := ofN_inb (by omega) hb
  have h2 : ixn (Int32.ofNat b) = b := ofN_ix (by omega)
  have h3 : inb (Int32.ofNat a) 8 := ofN_inb (by omega) ha
  have h4 : ixn (Int32.ofNat a) = a := ofN_ix (by omega)
  unfold F_X12_farOf F_X12_farOf_p44 F_X12_farOf_p89 F_X12_farOf_p103 farS
  simp only [hS.r1303, hS.r1304, lr_some hS.k2, lr_some hS.k3, hS.n2, hS.n3, grd_pos h1, h2, grd_pos h3, h4]
  by_cases c1 : gA M (o + 2) b ≤ gA M (o + 2) a <;> by_cases c2 : gA M (o + 3) b ≤ gA M (o + 3) a <;> simp only [c1, c2, if_true, if_false] <;> split <;> rfl
