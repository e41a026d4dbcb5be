def leadO (v : Nat → Int64) (b : Nat) : Nat → Nat → List (Nat × Int64)
  | 0, _ => []
  | r + 1, k => (8 * b + k, - v k) :: (8 * b + (k + 1), v k) :: leadO v b r (k + 1)
def washO (v : Nat → Int64) (b : Nat) : Nat → Nat → List (Nat × Int64)
  | 0, _ => []
  | r + 1, k => (8 * b + k, - v k) :: washO v b r (k + 1)
def washT (v : Nat → Int64) : Nat → Nat → List (Nat × Int64)
  | 0, _ => []
  | r + 1, k => (8, v k) :: washT v r (k + 1)
def ldV (M : Mem) (o : Nat) (h : Nat → Int64) (b k : Nat) : Int64 := (gA M (o + 8) b).toInt64 * (wS M o h b k - wS M o h b (k + 1)) / 100
def lostV (M : Mem) (o : Nat) (h : Nat → Int64) (b : Nat) : Int64 := (gA M (o + 8) b).toInt64 * (wS M o h b (rgW M o b - 1) - 1000 * (gA M (o + 7) b).toInt64) / 100
def washV (M : Mem) (o : Nat) (h : Nat → Int64) (b k : Nat) : Int64 := (h (8 * b + k) - firstS (gA M (o + 5)) (gA M (o + 6)) (gA M (o + 7)) b k) * (gA M (o + 9) b).toInt64 / 1000
def farW (M : Mem) (o a b : Nat) : Int32 := farS (gA M (o + 2)) (gA M (o + 3)) a b
def shrV (M : Mem) (o : Nat) (h : Nat → Int64) (a b : Nat) : Int64 := (gI M 1312 o).toInt64 * (wS M o h a (rgW M o a - 1) - wS M o h b (rgW M o b - 1)) / (100 * (farW M o a b + 1).toInt64)
/-- what goes by a bore's own rings, its rim and water -/
def ownO (M : Mem) (o : Nat) (h : Nat → Int64) (b : Nat) : List (Nat × Int64) := leadO (ldV M o h b) b (rgW M o b - 1) 0 ++ ((8 * b + (rgW M o b - 1), - lostV M o h b) :: washO (washV M o h b) b (rgW M o b) 0)
def ownT (M : Mem) (o : Nat) (h : Nat → Int64) (b : Nat) : List (Nat × Int64) := (7, lostV M o h b) :: washT (washV M o h b) (rgW M o b) 0
def pairO (M : Mem) (o : Nat) (h : Nat → Int64) (a b : Nat) : List (Nat × Int64) := if 9 < farW M o a b then [] else [(8 * a + (rgW M o a - 1), - shrV M o h a b), (8 * b + (rgW M o b - 1), shrV M o h a b)]
def pairsO (M : Mem) (o : Nat) (h : Nat → Int64) (a : Nat) : List (Nat × Int64) := catR (pairO M o h a) (nbW M o - (a + 1)) (a + 1)
/-- the rows of warmth and heat as the hour began -/
def WQ (M : Mem) (o : Nat) (h : Nat → Int64) (q : Nat → Nat → Int64) : Prop := ∀ b, b < nbW M o → ∀ k, k < rgW M o b → q (o + 34) (8 * b + k) = wS M o h b k ∧ q (o + 35) (8 * b + k) = h (8 * b + k)
theorem ofN_add1 {n : Nat} : Int32.ofNat n + (1 : Int32) = Int32.ofNat (n + 1) := ofN_succ
theorem m_lead_loop {o : Nat} {M : Mem} (hI : MI o M) {h0 : Nat → Int64} (g t : Nat → Int64) {q : Nat → Nat → Int64} (hq : WQ M o h0 q) {b : Nat} (hb : b < nbW M o) (kk : Mem → Nat → Int32 → Int32 → Option (Mem × Unit)) : ∀ (r i f : Nat) (h : Nat → Int64), i + r = rgW M o b - 1 → r < f →
    F_X12_ground_p21 kk f (HM o M h g t q) o (Int32.ofNat b) (Int32.ofNat (rgW M o b - 1)) (Int32.ofNat i) = kk (HM o M (app h (leadO (ldV M o h0 b) b r i)) g t q) o (Int32.ofNat b) (Int32.ofNat (rgW M o b - 1)) := by
  have hS := hI.sh
  have hb8 : b < 8 := Nat.lt_of_lt_of_le hb hI.nb8
  have hr8 := hI.rg8 hb
  have i5 : inb (Int32.ofNat b) 8 := ofN_inb (by omega) hb8
  have i6 : ixn (Int32.ofNat b) = b := ofN_ix (by omega)
  intro r
  induction r with
  | zero =>
    intro i f h hi hf
    obtain ⟨f, rfl⟩ : ∃ z, f = z + 1 := ⟨f - 1, by omega⟩
    unfold F_X12_ground_p21
    rw [if_pos ((ofN_le (by omega) (by omega)).mpr (by omega))]
    rfl
  | succ r ih =>
    intro i f h hi hf
    obtain ⟨f, rfl⟩ : ∃ z, f = z + 1 := ⟨f - 1, by omega⟩
    have i1 : inb (Int32.ofNat (8 * b + i)) 64 := ofN_inb (by omega) (by omega)
    have i2 : ixn (Int32.ofNat (8 * b + i)) = 8 * b + i := ofN_ix (by omega)
    have i3 : inb (Int32.ofNat (8 * b + i + 1)) 64 := ofN_inb (by omega) (by omega)
    have i4 : ixn (Int32.ofNat (8 * b + i + 1)) = 8 * b + i + 1 := ofN_ix (by omega)
    have w1 := (hq b hb i (by omega)).1
    have w2 : q (o + 34) (8 * b + i + 1) = wS M o h0 b (i + 1) := (hq b hb (i + 1) (by omega)).1
    have ev : (gA M (o + 8) b).toInt64 * (wS M o h0 b i - wS M o h0 b (i + 1)) / 100 = ldV M o h0 b i := rfl
    unfold F_X12_ground_p21
    rw [if_neg (by rw [ofN_le (by omega) (by omega)]; omega)]
    simp only [gR_HM, gK_HM, gN_HM, gA_HM, hS.r1309, hS.r1346, hS.r1313, lr_some hS.k8, lr_some hS.k34, lr_some hS.k11, hS.n8, hS.n34, hS.n11, i8, ofN_add1, grd_pos i1, i2, grd_pos i3, i4, grd_pos i5, i6, HM_34, w1, w2, HM_11, sH11, bnd, ev, i64_sub_neg (h (8 * b + i))]
    exact ih (i + 1) f _ (by omega) (by omega)
theorem m_wash_loop {o : Nat} {M : Mem} (hI : MI o M) {h0 : Nat → Int64} (g : Nat → Int64) {q : Nat → Nat → Int64} (hq : WQ M o h0 q) {b : Nat} (hb : b < nbW M o) (kk : Mem → Nat → Int32 → Option (Mem × Unit)) : ∀ (r i f : Nat) (h t : Nat → Int64), i + r = rgW M o b → r < f →
    F_X12_ground_p170 kk f (HM o M h g t q) o (Int32.ofNat b) (Int32.ofNat (rgW M o b - 1)) (Int32.ofNat i) = kk (HM o M (app h (washO (washV M o h0 b) b r i)) g (app t (washT (washV M o h0 b) r i)) q) o (Int32.ofNat b) := by
  have hS := hI.sh
  have hb8 : b < 8 := Nat.lt_of_lt_of_le hb hI.nb8
  have hr8 := hI.rg8 hb
  have hr1 := hI.rg1 hb
  have i5 : inb (Int32.ofNat b) 8 := ofN_inb (by omega) hb8
  have i6 : ixn (Int32.ofNat b) = b := ofN_ix (by omega)
  have z1 : inb (8 : Int32) 9 := by decide
  have z2 : ixn (8 : Int32) = 8 := by decide
  intro r
  induction r with
  | zero =>
    intro i f h t hi hf
    obtain ⟨f, rfl⟩ : ∃ z, f = z + 1 := ⟨f - 1, by omega⟩
    unfold F_X12_ground_p170
    rw [if_pos ((ofN_lt (by omega) (by omega)).mpr (by omega))]
    rfl
  | succ r ih =>
    intro i f h t hi hf
    obtain ⟨f, rfl⟩ : ∃ z, f = z + 1 := ⟨f - 1, by omega⟩
    have i1 : inb (Int32.ofNat (8 * b + i)) 64 := ofN_inb (by omega) (by omega)
    have i2 : ixn (Int32.ofNat (8 * b + i)) = 8 * b + i := ofN_ix (by omega)
    have w2 := (hq b hb i (by omega)).2
    have hf0 : F_X12_atFirst (HM o M h g t q) o (Int32.ofNat b) (Int32.ofNat i) = some (HM o M h g t q, firstS (gA M (o + 5)) (gA M (o + 6)) (gA M (o + 7)) b i) := m_atFirst (mshHM hS h g t q) hb8 i
    have ev : (h0 (8 * b + i) - firstS (gA M (o + 5)) (gA M (o + 6)) (gA M (o + 7)) b i) * (gA M (o + 9) b).toInt64 / 1000 = washV M o h0 b i := rfl
    unfold F_X12_ground_p170
    rw [if_neg (by rw [ofN_lt (by omega) (by omega)]; omega)]
    simp only [gR_HM, gK_HM, gN_HM, gA_HM, hS.r1347, hS.r1310, hS.r1313, hS.r1315, lr_some hS.k35, lr_some hS.k9, lr_some hS.k11, lr_some hS.k13, hS.n35, hS.n9, hS.n11, hS.n13, hf0, cl_some, i8, grd_pos i1, i2, grd_pos i5, i6, grd_pos z1, z2, HM_35, w2, HM_11, sH11, HM_13, sH13, bnd, ev, i64_sub_neg (h (8 * b + i)), ofN_succ]
    exact ih (i + 1) f _ _ (by omega) (by omega)
theorem m_own_loop {o : Nat} {M : Mem} (hI : MI o M) {h0 : Nat → Int64} (g : Nat → Int64) {q : Nat → Nat → Int64} (hq : WQ M o h0 q) (kk : Mem → Nat → Option (Mem × Unit)) : ∀ (r i f : Nat) (h t : Nat → Int64), i + r = nbW M o → r < f →
    F_X12_ground_p2 kk f (HM o M h g t q) o (Int32.ofNat i) = kk (HM o M (app h (catR (ownO M o h0) r i)) g (app t (catR (ownT M o h0) r i)) q) o := by
  have hS := hI.sh
  have hb8 := hI.nb8
  have z1 : inb (7 : Int32) 9 := by decide
  have z2 : ixn (7 : Int32) = 7 := by decide
  intro r
  induction r with
  | zero =>
    intro i f h t hi hf
    obtain ⟨f, rfl⟩ : ∃ z, f = z + 1 := ⟨f - 1, by omega⟩
    unfold F_X12_ground_p2
    simp only [gI_HM, hI.nb]
    rw [if_pos ((ofN_le (by omega) (by omega)).mpr (by omega))]
    rfl
  | succ r ih =>
    intro i f h t hi hf
    obtain ⟨f, rfl⟩ : ∃ z, f = z + 1 := ⟨f - 1, by omega⟩
    have hb : i < nbW M o := by omega
    have hr8 := hI.rg8 hb
    have hr1 := hI.rg1 hb
    have i5 : inb (Int32.ofNat i) 8 := ofN_inb (by omega) (by omega)
    have i6 : ixn (Int32.ofNat i) = i := ofN_ix (by omega)
    have i1 : inb (Int32.ofNat (8 * i + (rgW M o i - 1))) 64 := ofN_inb (by omega) (by omega)
    have i2 : ixn (Int32.ofNat (8 * i + (rgW M o i - 1))) = 8 * i + (rgW M o i - 1) := ofN_ix (by omega)
    have hl : Int32.ofNat (rgW M o i) - (1 : Int32) = Int32.ofNat (rgW M o i - 1) := ofN_subk (k := 1) (by omega) (by omega)
    have w1 := (hq i hb (rgW M o i - 1) (by omega)).1
    have ev : (gA M (o + 8) i).toInt64 * (wS M o h0 i (rgW M o i - 1) - 1000 * (gA M (o + 7) i).toInt64) / 100 = lostV M o h0 i := rfl
    have e1 := m_lead_loop hI g t hq hb (F_X12_ground_p105 (F_X12_ground_p2 kk f)) (rgW M o i - 1) 0 FU h (by omega) (by unfold FU; omega)
    have e2 := fun h t => m_wash_loop hI g hq hb (F_X12_ground_p245 (F_X12_ground_p2 kk f)) (rgW M o i) 0 FU h t (by omega) (by unfold FU; omega)
    unfold F_X12_ground_p2
    simp only [gI_HM, hI.nb]
    rw [if_neg (by rw [ofN_le (by omega) (by omega)]; omega)]
    simp only [gR_HM, gK_HM, gN_HM, gA_HM, hS.r1305, lr_some hS.k4, hS.n4, grd_pos i5, i6, hI.rg hb, hl, bnd]
    have e1 : F_X12_ground_p21 (F_X12_ground_p105 (F_X12_ground_p2 kk f)) FU (HM o M h g t q) o (Int32.ofNat i) (Int32.ofNat (rgW M o i - 1)) (0 : Int32) = _ := e1
    rw [e1]
    unfold F_X12_ground_p105
    simp only [gR_HM, gK_HM, gN_HM, gA_HM, hS.r1309, hS.r1346, hS.r1308, hS.r1313, hS.r1315, lr_some hS.k8, lr_some hS.k34, lr_some hS.k7, lr_some hS.k11, lr_some hS.k13, hS.n8, hS.n34, hS.n7, hS.n11, hS.n13, i8, grd_pos i1, i2, grd_pos i5, i6, grd_pos z1, z2, HM_34, w1, HM_11, sH11, HM_13, sH13, bnd, ev, i64_sub_neg _ (lostV M o h0 i)]
    have e2 : ∀ h t, F_X12_ground_p170 (F_X12_ground_p245 (F_X12_ground_p2 kk f)) FU (HM o M h g t q) o (Int32.ofNat i) (Int32.ofNat (rgW M o i - 1)) (0 : Int32) = _ := e2
    rw [e2]
    unfold F_X12_ground_p245
    simp only [bnd, ofN_succ]
    rw [ih (i + 1) f _ _ (by omega) (by omega)]
    rw [catR_succ, catR_succ, app_append, app_append, show ownO M o h0 i = leadO (ldV M o h0 i) i (rgW M o i - 1) 0 ++ ((8 * i + (rgW M o i - 1), - lostV M o h0 i) :: washO (washV M o h0 i) i (rgW M o i) 0) from rfl, app_append]
    rfl
theorem far_ne {o : Nat} {M : Mem} (hI : MI o M) {a b : Nat} (ha : a < nbW M o) (hb : b < nbW M o) : bt (farW M o a b) 0 99 ∧ ¬ (100 : Int64) * (farW M o a b + 1).toInt64 = 0 := by
  obtain ⟨-, -, -, -, -, x1, y1⟩ := hI.bo ha
  obtain ⟨-, -, -, -, -, x2, y2⟩ := hI.bo hb
  have hf : bt (farW M o a b) 0 99 := by
    have s1 : ∀ x y : Int32, bt x 0 99 → bt y 0 99 → bt (if y ≤ x then x - y else y - x) 0 99 := by
      intro x y hx hy
      have h1 := hx.1
      have h2 := hx.2
      have h3 := hy.1
      have h4 := hy.2
      by_cases hc : y ≤ x
      · rw [if_pos hc]
        have hc := i32_le.mp hc
        have e : (x - y).toInt = x.toInt - y.toInt := i32_sub (by omega) (by omega)
        exact ⟨by omega, by omega⟩
      · rw [if_neg hc]
        have hc : ¬ y.toInt ≤ x.toInt := fun k => hc (i32_le.mpr k)
        have e : (y - x).toInt = y.toInt - x.toInt := i32_sub (by omega) (by omega)
        exact ⟨by omega, by omega⟩
    have hx := s1 _ _ x1 x2
    have hy := s1 _ _ y1 y2
    unfold farW farS
    generalize (if gA M (o + 2) b ≤ gA M (o + 2) a then gA M (o + 2) a - gA M (o + 2) b else gA M (o + 2) b - gA M (o + 2) a) = X at hx ⊢
    generalize (if gA M (o + 3) b ≤ gA M (o + 3) a then gA M (o + 3) a - gA M (o + 3) b else gA M (o + 3) b - gA M (o + 3) a) = Y at hy ⊢
    by_cases hc : X ≤ Y
    · rw [if_pos hc]
      exact hy
    · rw [if_neg hc]
      exact hx
  refine ⟨hf, i64_ne ?_⟩
  have := hf.1
  have := hf.2
  have e1 : (farW M o a b + 1).toInt = (farW M o a b).toInt + 1 := i32_add (by show -2147483648 ≤ _ + (1 : Int); omega) (by show _ + (1 : Int) < _; omega)
  have e0 : (100 : Int64).toInt = 100 := by decide
  rw [i64_mul (by rw [e0, Int32.toInt_toInt64, e1]; omega) (by rw [e0, Int32.toInt_toInt64, e1]; omega), e0, Int32.toInt_toInt64, e1]
  omega
theorem m_pair_loop {o : Nat} {M : Mem} (hI : MI o M) {h0 : Nat → Int64} (g t : Nat → Int64) {q : Nat → Nat → Int64} (hq : WQ M o h0 q) {a : Nat} (ha : a < nbW M o) (kk : Mem → Nat → Int32 → Option (Mem × Unit)) : ∀ (r i f : Nat) (h : Nat → Int64), i + r = nbW M o → r < f →
    F_X12_ground_p265 kk f (HM o M h g t q) o (Int32.ofNat a) (Int32.ofNat i) = kk (HM o M (app h (catR (pairO M o h0 a) r i)) g t q) o (Int32.ofNat a) := by
  have hS := hI.sh
  have hb8 := hI.nb8
  have hra8 := hI.rg8 ha
  have hra1 := hI.rg1 ha
  have i5 : inb (Int32.ofNat a) 8 := ofN_inb (by omega) (by omega)
  have i6 : ixn (Int32.ofNat a) = a := ofN_ix (by omega)
  have ix : ∀ b, b < nbW M o → Int32.ofNat (8 * b + rgW M o b) - (1 : Int32) = Int32.ofNat (8 * b + (rgW M o b - 1)) := fun b hb => by
    have := hI.rg8 hb
    have := hI.rg1 hb
    rw [show (1 : Int32) = Int32.ofNat 1 from rfl, ofN_subk (by omega) (by omega)]
    congr 1
    omega
  have i3 : inb (Int32.ofNat (8 * a + (rgW M o a - 1))) 64 := ofN_inb (by omega) (by omega)
  have i4 : ixn (Int32.ofNat (8 * a + (rgW M o a - 1))) = 8 * a + (rgW M o a - 1) := ofN_ix (by omega)
  intro r
  induction r with
  | zero =>
    intro i f h hi hf
    obtain ⟨f, rfl⟩ : ∃ z, f = z + 1 := ⟨f - 1, by omega⟩
    unfold F_X12_ground_p265
    simp only [gI_HM, hI.nb]
    rw [if_pos ((ofN_le (by omega) (by omega)).mpr (by omega))]
    rfl
  | succ r ih =>
    intro i f h hi hf
    obtain ⟨f, rfl⟩ : ∃ z, f = z + 1 := ⟨f - 1, by omega⟩
    have hb : i < nbW M o := by omega
    have hr8 := hI.rg8 hb
    have hr1 := hI.rg1 hb
    have i7 : inb (Int32.ofNat i) 8 := ofN_inb (by omega) (by omega)
    have j7 : ixn (Int32.ofNat i) = i := ofN_ix (by omega)
    have i1 : inb (Int32.ofNat (8 * i + (rgW M o i - 1))) 64 := ofN_inb (by omega) (by omega)
    have i2 : ixn (Int32.ofNat (8 * i + (rgW M o i - 1))) = 8 * i + (rgW M o i - 1) := ofN_ix (by omega)
    have w1 := (hq a ha (rgW M o a - 1) (by omega)).1
    have w2 := (hq i hb (rgW M o i - 1) (by omega)).1
    have hfar : F_X12_farOf (HM o M h g t q) o (Int32.ofNat a) (Int32.ofNat i) = some (HM o M h g t q, farW M o a i) := m_farOf (mshHM hS h g t q) (by omega) (by omega)
    have hne := (far_ne hI ha hb).2
    have ev : (gI M 1312 o).toInt64 * (wS M o h0 a (rgW M o a - 1) - wS M o h0 i (rgW M o i - 1)) / (100 * (farW M o a i + 1).toInt64) = shrV M o h0 a i := rfl
    unfold F_X12_ground_p265
    simp only [gI_HM, hI.nb]
    rw [if_neg (by rw [ofN_le (by omega) (by omega)]; omega), hfar]
    simp only [cl_some]
    rw [catR_succ, app_append]
    unfold pairO
    by_cases hc : 9 < farW M o a i
    · rw [if_pos hc, if_pos hc]
      unfold F_X12_ground_p372
      simp only [bnd, ofN_succ]
      exact ih (i + 1) f h (by omega) (by omega)
    · rw [if_neg hc, if_neg hc]
      unfold F_X12_ground_p372
      simp only [gR_HM, gK_HM, gN_HM, gA_HM, gI_HM, hS.r1305, hS.r1346, hS.r1313, lr_some hS.k4, lr_some hS.k34, lr_some hS.k11, hS.n4, hS.n34, hS.n11, grd_pos i5, i6, grd_pos i7, j7, hI.rg hb, hI.rg ha, i8, ix a ha, ix i hb, grd_pos i1, i2, grd_pos i3, i4, HM_34, w1, w2, grd_pos hne, HM_11, sH11, bnd, ev, i64_sub_neg _ (shrV M o h0 a i), ofN_succ]
      exact ih (i + 1) f _ (by omega) (by omega)
theorem m_pairs_loop {o : Nat} {M : Mem} (hI : MI o M) {h0 : Nat → Int64} (g t : Nat → Int64) {q : Nat → Nat → Int64} (hq : WQ M o h0 q) (kk : Mem → Option (Mem × Unit)) : ∀ (r i f : Nat) (h : Nat → Int64), i + r = nbW M o → r < f →
    F_X12_ground_p253 kk f (HM o M h g t q) o (Int32.ofNat i) = kk (HM o M (app h (catR (pairsO M o h0) r i)) g t q) := by
  have hb8 := hI.nb8
  intro r
  induction r with
  | zero =>
    intro i f h hi hf
    obtain ⟨f, rfl⟩ : ∃ z, f = z + 1 := ⟨f - 1, by omega⟩
    unfold F_X12_ground_p253
    simp only [gI_HM, hI.nb]
    rw [if_pos ((ofN_le (by omega) (by omega)).mpr (by omega))]
    rfl
  | succ r ih =>
    intro i f h hi hf
    obtain ⟨f, rfl⟩ : ∃ z, f = z + 1 := ⟨f - 1, by omega⟩
    have e1 := m_pair_loop hI g t hq (show i < nbW M o by omega) (F_X12_ground_p378 (F_X12_ground_p253 kk f)) (nbW M o - (i + 1)) (i + 1) FU h (by omega) (by unfold FU; omega)
    unfold F_X12_ground_p253
    simp only [gI_HM, hI.nb]
    rw [if_neg (by rw [ofN_le (by omega) (by omega)]; omega)]
    simp only [bnd, ofN_add1]
    rw [e1]
    unfold F_X12_ground_p378
    rw [catR_succ, app_append]
    simp only [bnd, ofN_succ]
    exact ih (i + 1) f _ (by omega) (by omega)
/-- all that goes in the ground in an hour, and what of it is told -/
def grdO (M : Mem) (o : Nat) (h : Nat → Int64) : List (Nat × Int64) := catR (ownO M o h) (nbW M o) 0 ++ catR (pairsO M o h) (nbW M o) 0
def grdT (M : Mem) (o : Nat) (h : Nat → Int64) : List (Nat × Int64) := catR (ownT M o h) (nbW M o) 0
theorem m_ground {o : Nat} {M : Mem} (hI : MI o M) {h0 : Nat → Int64} (h g t : Nat → Int64) {q : Nat → Nat → Int64} (hq : WQ M o h0 q) : F_X12_ground (HM o M h g t q) o = some (HM o M (app h (grdO M o h0)) g (app t (grdT M o h0)) q, ()) := by
  have hb8 := hI.nb8
  have e1 := m_own_loop hI g hq F_X12_ground_p251 (nbW M o) 0 FU h t (by omega) (by unfold FU; omega)
  have e2 := fun h t => m_pairs_loop hI (h0 := h0) g t hq F_X12_ground_p384 (nbW M o) 0 FU h (by omega) (by unfold FU; omega)
  unfold F_X12_ground grdO grdT
  refine Eq.trans e1 ?_
  rw [app_append]
  exact e2 _ _
/-- an hour: heat, given, told -/
def sunS (M : Mem) (o hr : Nat) (h t : Nat → Int64) : Int64 × (Nat → Int64) × (Nat → Int64) := sunR (mayS M o hr h 1) (gA M (o + 10)) (nbW M o) 0 (gA M (o + 22) (hr % 24)).toInt64 h t
def needW (M : Mem) (o hr : Nat) : Int64 := needAt (gA M (o + 14)) (gA M (o + 15)) (gA M (o + 16)) (gA M (o + 17)) (gA M (o + 18)) (nhW M o) hr
def metS (M : Mem) (o hr : Nat) (h g t : Nat → Int64) : Int64 × Int64 × (Nat → Int64) × (Nat → Int64) × (Nat → Int64) := metR (mayS M o hr h 0) (fun b => lfS M o (wS M o h b 0)) (fun b => wS M o h b 0) (gA M (o + 10)) (nbW M o) 0 (needW M o hr) 0 (sunS M o hr h t).2.1 g (ad (sunS M o hr h t).2.2 1 (sunS M o hr h t).1)
def costS (M : Mem) (o hr : Nat) (x : Int64 × Int64 × (Nat → Int64) × (Nat → Int64) × (Nat → Int64)) : Nat → Int64 := ad (ad (ad x.2.2.2.2 4 x.2.1) 5 x.1) 6 ((x.2.1 + x.1) * (gA M (o + 21) (hr % 24)).toInt64 / 100)
def hourS (M : Mem) (o hr : Nat) (h g t : Nat → Int64) : (Nat → Int64) × (Nat → Int64) × (Nat → Int64) := (app (metS M o hr h g t).2.2.1 (grdO M o h), (metS M o hr h g t).2.2.2.1, app (costS M o hr (metS M o hr h g t)) (grdT M o h))
