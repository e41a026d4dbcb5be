theorem xor_nn {i n : Nat} (hi : i < 2147483648) (hn : n < 2147483648) : (0 : Int32) ≤ Int32.ofNat i ^^^ Int32.ofNat n := by
  have hm : ∀ k, k < 2147483648 → (Int32.ofNat k).toBitVec.msb = false := by
    intro k hk
    rw [BitVec.msb_eq_false_iff_two_mul_lt]
    show 2 * (BitVec.ofNat 32 k).toNat < 2 ^ 32
    rw [BitVec.toNat_ofNat]
    omega
  rw [Int32.le_iff_toInt_le]
  show (0 : Int) ≤ (Int32.ofNat i ^^^ Int32.ofNat n).toBitVec.toInt
  rw [Int32.toBitVec_xor]
  apply BitVec.toInt_nonneg_of_msb_false
  rw [BitVec.msb_xor, hm i hi, hm n hn]
  rfl
theorem c_inRound {M : Mem} {a n i : Nat} (hn : gN M a = n) (h0 : 0 < n) (h1 : n < 100000) (hi : i < 2147483648) : F_X11_inRound M a (Int32.ofNat i) = some (M, gA M a (i % n)) := by
  have hm : i % n < n := Nat.mod_lt _ h0
  have e1 : ¬ Int32.ofNat n = 0 := by
    intro h
    have := congrArg Int32.toInt h
    rw [ofN_toInt (by omega)] at this
    simp at this
    omega
  have e2 : fmI (Int32.ofNat i) (Int32.ofNat n) = Int32.ofNat (i % n) := by
    unfold fmI
    rw [if_pos (xor_nn hi (by omega)), ofN_modk hi n h0 (by omega)]
  have i1 : inb (Int32.ofNat (i % n)) n := ofN_inb (by omega) hm
  have i2 : ixn (Int32.ofNat (i % n)) = i % n := ofN_ix (by omega)
  unfold F_X11_inRound F_X11_inRound_p17
  rw [hn, if_neg e1, grd_pos e1, e2, grd_pos i1, i2]
/-- the houses -/
def HoR (x : Nat) (M : Mem) (o : Nat) (W : Mem) (ha : Nat → Nat) : Prop := LiS M (x + 2) (nhW W o) ha ∧ ∀ i, i < nhW W o → gK M (ha i) = 4 ∧ gI M 300 (ha i) = gA W (o + 14) i ∧ gI M 301 (ha i) = gA W (o + 15) i ∧ gI M 302 (ha i) = gA W (o + 16) i ∧ gI M 303 (ha i) = (if gA W (o + 17) i < 0 then 0 else 1) ∧ (¬ gA W (o + 17) i < 0 → gI M 304 (ha i) = gA W (o + 17) i)
/-- what is told of days and hours -/
def ToR (x : Nat) (M : Mem) (o : Nat) (W : Mem) : Prop := (∀ i, i < 12 → gA M (x + 3) i = gA W (o + 18) i) ∧ (∀ i, i < 24 → gA M (x + 4) i = gA W (o + 21) i) ∧ (∀ i, i < 24 → gA M (x + 5) i = gA W (o + 22) i)
/-- the table -/
def TaR (x : Nat) (M : Mem) (o : Nat) (W : Mem) : Prop := gI M 802 (x + 6) = gI W 1322 o ∧ (∀ k, k < 8 → gA M (x + 7) k = gA W (o + 19) k) ∧ (∀ k, k < 8 → gA M (x + 8) k = gA W (o + 20) k)
/-- the class's sign for a code of the model's -/
def cmap (c : Int32) : Int32 := if 1000 ≤ c.toInt then c - 1000 else if c.toInt < 9 then -1 - c else 10 - c
/-- the rules -/
def RuR (x : Nat) (M : Mem) (o : Nat) (W : Mem) (ua : Nat → Nat) : Prop := LiS M (x + 10) (nrW W o) ua ∧ ∀ r, r < nrW W o → gK M (ua r) = 7 ∧ gI M 600 (ua r) = gA W (o + 24) r ∧ gI M 601 (ua r) = gA W (o + 25) r ∧ gR M 602 (ua r) = some (ua r + 1) ∧ gK M (ua r + 1) = 20 ∧ gN M (ua r + 1) = 60 ∧ gI M 603 (ua r) = gA W (o + 26) r ∧ x + 54 ≤ ua r ∧ ∀ j, j < szW W o r → gA M (ua r + 1) j = cmap (gA W (o + 27) (62 * r + j))
theorem c_joined {M : Mem} {a : Nat} {jn : Nat → Int32} {i : Nat} (h1 : gI M 303 a = (if jn i < 0 then 0 else 1)) (h2 : ¬ jn i < 0 → gI M 304 a = jn i) (day : Int32) : F_X2_isJoinedOn M a day = some (M, if jnd jn day i then 1 else 0) := by
  unfold F_X2_isJoinedOn F_X2_isJoinedOn_p19 F_X2_isJoinedOn_p20
  unfold jnd
  by_cases c1 : jn i < 0
  · rw [if_pos c1] at h1
    simp [h1, c1, grd]
  · rw [if_neg c1] at h1
    have h2 := h2 c1
    by_cases c2 : day < jn i
    · simp [h1, h2, c1, c2, grd]
    · simp [h1, h2, c1, c2, grd]
theorem i64_of32 {x y : Int32} (h : -2147483648 ≤ x.toInt - y.toInt) (h2 : x.toInt - y.toInt < 2147483648) : (x - y).toInt64 = x.toInt64 - y.toInt64 := by
  apply i64_ext
  have h3 := Int32.le_toInt x
  have h4 := Int32.toInt_lt x
  have h5 := Int32.le_toInt y
  have h6 := Int32.toInt_lt y
  rw [Int32.toInt_toInt64, i32_sub h h2, i64_sub (by rw [Int32.toInt_toInt64, Int32.toInt_toInt64]; omega) (by rw [Int32.toInt_toInt64, Int32.toInt_toInt64]; omega), Int32.toInt_toInt64, Int32.toInt_toInt64]
theorem t15 : (15 : Int32).toInt = 15 := by decide
theorem i32_div2 {x : Int32} : (x / 2).toInt64 = x.toInt64 / 2 := by
  apply i64_ext
  have hx := Int32.le_toInt x
  have hx2 := Int32.toInt_lt x
  have e2 : (2 : Int64).toInt = 2 := by decide
  have e3 : (2 : Int32).toInt = 2 := by decide
  rw [i64_div (by rw [e2]; omega), Int32.toInt_toInt64, Int32.toInt_toInt64, e2, Int32.toInt_div, e3, Int.bmod_def]
  rcases Int.le_total 0 x.toInt with h0 | h0
  · have := tdiv_nn h0 (show (0 : Int) < 2 by omega)
    omega
  · have := tdiv_np h0 (show (0 : Int) < 2 by omega)
    omega
/-- what a house wants, as the class works it out -/
theorem own_eq {ba mo wk : Nat → Int32} {t c : Int32} {i : Nat} (h1 : bt (ba i) 0 9999) (h2 : bt (mo i) 0 999) (hc : bt c (-100) 100) : (if ((wk i >>> ((t - t / (24 : Int32) * (24 : Int32)) &&& 31)) &&& (1 : Int32)) = (1 : Int32) then (ba i + mo i * (if (0 : Int32) < c then c else 0)).toInt64 else ((ba i + mo i * (if (0 : Int32) < c then c else 0)) / (2 : Int32)).toInt64) = ownN ba mo wk t c i := by
  have k1 := h1.1
  have k2 := h1.2
  have k3 := h2.1
  have k4 := h2.2
  have k5 := hc.1
  have k6 := hc.2
  have e0 : (if (0 : Int32) < c then c else 0) = (if (0 : Int32) ≤ c then c else 0) := by
    by_cases z1 : (0 : Int32) < c
    · rw [if_pos z1, if_pos (Int32.le_of_lt z1)]
    · rw [if_neg z1]
      by_cases z2 : (0 : Int32) ≤ c
      · rw [if_pos z2]
        have z1 : ¬ (0 : Int32).toInt < c.toInt := fun k => z1 (i32_lt.mpr k)
        have z2 := i32_le.mp z2
        have z0 : (0 : Int32).toInt = 0 := by decide
        exact i32_ext (by omega)
      · rw [if_neg z2]
  have hb : bt (if (0 : Int32) ≤ c then c else 0) 0 100 := by
    by_cases z2 : (0 : Int32) ≤ c
    · rw [if_pos z2]
      have z2 := i32_le.mp z2
      have z0 : (0 : Int32).toInt = 0 := by decide
      exact ⟨by omega, by omega⟩
    · rw [if_neg z2]
      decide
  rw [e0]
  unfold ownN
  generalize (if (0 : Int32) ≤ c then c else 0) = d at hb ⊢
  have k7 := hb.1
  have k8 := hb.2
  have m1 := Int.mul_nonneg k3 k7
  have m2 : (mo i).toInt * d.toInt ≤ 999 * 100 := Int.mul_le_mul k4 k8 k7 (by omega)
  have em : (mo i * d).toInt = (mo i).toInt * d.toInt := i32_mul (by omega) (by omega)
  have es : (ba i + mo i * d).toInt = (ba i).toInt + (mo i).toInt * d.toInt := by rw [i32_add (by rw [em]; omega) (by rw [em]; omega), em]
  have e1 : (ba i + mo i * d).toInt64 = (ba i).toInt64 + (mo i).toInt64 * d.toInt64 := by
    apply i64_ext
    have q1 : ((mo i).toInt64 * d.toInt64).toInt = (mo i).toInt * d.toInt := by rw [i64_mul (by rw [Int32.toInt_toInt64, Int32.toInt_toInt64]; omega) (by rw [Int32.toInt_toInt64, Int32.toInt_toInt64]; omega), Int32.toInt_toInt64, Int32.toInt_toInt64]
    rw [Int32.toInt_toInt64, es, i64_add (by rw [q1, Int32.toInt_toInt64]; omega) (by rw [q1, Int32.toInt_toInt64]; omega), q1, Int32.toInt_toInt64]
  rw [i32_div2, e1]
theorem c_need_loop {x o : Nat} {M W : Mem} (hC : CSh x M) (hI : MI o W) {ha : Nat → Nat} (hH : HoR x M o W ha) (k : Mem → Int64 → Option (Mem × Int64)) (t day c : Int32) (hc : bt c (-100) 100) : ∀ (r i n : Nat), i + r = nhW W o → r < n →
    F_X10_needOf_p27 k n M (x + 1) t day (if (0 : Int32) < c then c else 0) (needS (gA W (o + 14)) (gA W (o + 15)) (gA W (o + 16)) (gA W (o + 17)) t day c i) (Int32.ofNat i) = k M (needS (gA W (o + 14)) (gA W (o + 15)) (gA W (o + 16)) (gA W (o + 17)) t day c (nhW W o)) := by
  have h20 := hI.nh20
  intro r
  induction r with
  | zero =>
    intro i n hi hn
    obtain ⟨n, rfl⟩ : ∃ z, n = z + 1 := ⟨n - 1, by omega⟩
    have : i = nhW W o := by omega
    subst this
    unfold F_X10_needOf_p27
    rw [hC.r1100, lr_some hC.k2, c_size, cl_some, hH.1.2.1, if_pos ((ofN_le (by omega) (by omega)).mpr (Nat.le_refl _))]
  | succ r ih =>
    intro i n hi hn
    obtain ⟨n, rfl⟩ : ∃ z, n = z + 1 := ⟨n - 1, by omega⟩
    obtain ⟨k1, k2, k3, k4, k5, k6⟩ := hH.2 i (by omega)
    obtain ⟨b1, b2⟩ := hI.ho (i := i) (by omega)
    have hrec := ih (i + 1) n (by omega) (by omega)
    rw [needS_succ] at hrec
    unfold F_X10_needOf_p27
    rw [hC.r1100, lr_some hC.k2, c_size, cl_some, hH.1.2.1, if_neg (by rw [ofN_le (by omega) (by omega)]; omega)]
    rw [hC.r1100, lr_some hC.k2, c_get hH.1 (by omega), cl_some, lr_some k1, c_joined k5 k6, cl_some]
    by_cases hj : jnd (gA W (o + 17)) day i = true
    · rw [if_pos hj] at hrec
      rw [← own_eq b1 b2 hc] at hrec
      simp only [hj, if_true, one_ne, if_false, bnd, k2, k3, k4]
      unfold F_X10_needOf_p98 F_X10_needOf_p118 F_X10_needOf_p121
      simp only [one_ne, bz, if_true, if_false, bnd, ofN_succ]
      by_cases hw : ((gA W (o + 16) i >>> ((t - t / (24 : Int32) * (24 : Int32)) &&& 31)) &&& (1 : Int32)) = (1 : Int32)
      · simp only [hw, if_true] at hrec ⊢
        exact hrec
      · simp only [hw, if_false] at hrec ⊢
        exact hrec
    · rw [if_neg hj] at hrec
      simp only [hj, Bool.false_eq_true, if_false, bz, if_true, F_X10_needOf_p121, bnd, ofN_succ]
      exact hrec
theorem c_needOf {x o : Nat} {M W : Mem} (hC : CSh x M) (hI : MI o W) {ha : Nat → Nat} (hH : HoR x M o W ha) (hT : ToR x M o W) {t : Nat} (ht : t < 2147483648) : F_X10_needOf M (x + 1) (Int32.ofNat t) = some (M, needW W o t) := by
  have h20 := hI.nh20
  have hd : t / 24 < 2147483648 := by omega
  have hcd := hI.cd (i := t / 24 % 12) (by omega)
  have c1 := hcd.1
  have c2 := hcd.2
  have ec : ((15 : Int32) - gA W (o + 18) (t / 24 % 12)).toInt = 15 - (gA W (o + 18) (t / 24 % 12)).toInt := by rw [i32_sub (by rw [t15]; omega) (by rw [t15]; omega), t15]
  unfold F_X10_needOf
  simp only [bnd, d24 ht, hC.r1101, lr_some hC.k3, c_inRound hC.n3 (by omega) (by omega) hd, cl_some, hT.1 _ (show t / 24 % 12 < 12 by omega)]
  exact c_need_loop hC hI hH F_X10_needOf_p127 (Int32.ofNat t) (Int32.ofNat (t / 24)) ((15 : Int32) - gA W (o + 18) (t / 24 % 12)) ⟨by omega, by omega⟩ (nhW W o) 0 FU (by omega) (by unfold FU; omega)
theorem c_cut {M : Mem} {v by_ : Int64} (h : ¬ by_ = 0) : F_X11_cut M v by_ = some (M, v / by_) := by
  unfold F_X11_cut F_X11_cut_p13
  rw [if_neg (fun k => h ((lg_cmp_eq _ _).mp k)), grd_pos h]
theorem c_lift_loop {x o : Nat} {M W : Mem} (hC : CSh x M) (hI : MI o W) (hT : TaR x M o W) (w : Int64) : ∀ (r k n : Nat), k + r + 1 = npW W o → r < n →
    F_X7_liftAt_p10 F_X7_liftAt_p60 F_X7_liftAt_p121 n M (x + 6) w (gA W (o + 20) k).toInt64 ((1000 : Int64) * (gA W (o + 19) k).toInt64) (Int32.ofNat (k + 1)) = some (M, liftL (gA W (o + 19)) (gA W (o + 20)) w r k) := by
  have h8 := hI.np8
  intro r
  induction r with
  | zero =>
    intro k n hk hn
    obtain ⟨n, rfl⟩ : ∃ z, n = z + 1 := ⟨n - 1, by omega⟩
    unfold F_X7_liftAt_p10
    rw [hT.1, hI.np, if_pos ((ofN_le (by omega) (by omega)).mpr (by omega))]
    rfl
  | succ r ih =>
    intro k n hk hn
    obtain ⟨n, rfl⟩ : ∃ z, n = z + 1 := ⟨n - 1, by omega⟩
    have i1 : inb (Int32.ofNat (k + 1)) 8 := ofN_inb (by omega) (by omega)
    have i2 : ixn (Int32.ofNat (k + 1)) = k + 1 := ofN_ix (by omega)
    have l8 : ¬ Int32.ofNat 8 ≤ Int32.ofNat (k + 1) := by rw [ofN_le (by omega) (by omega)]; omega
    have hrec := ih (k + 1) n (by omega) (by omega)
    have b1 := (hI.po (k := k) (by omega)).2
    have b2 := (hI.po (k := k + 1) (by omega)).2
    unfold F_X7_liftAt_p10
    rw [hT.1, hI.np, if_neg (by rw [ofN_le (by omega) (by omega)]; omega)]
    simp only [hC.r800, hC.r801, lr_some hC.k7, lr_some hC.k8, hC.n7, hC.n8, if_neg l8, grd_pos i1, i2, bnd, lg_cmp_ge, hT.2.1 (k + 1) (by omega), hT.2.2 (k + 1) (by omega), ofN_succ]
    unfold liftL
    by_cases hw : w < (1000 : Int64) * (gA W (o + 19) (k + 1)).toInt64
    · rw [if_neg (Int64.not_le.mpr hw), if_pos hw]
      have z : ¬ Int32.ofNat (k + 1) = 0 := by
        intro h
        have := congrArg Int32.toInt h
        rw [ofN_toInt (by omega)] at this
        simp at this
        omega
      unfold F_X7_liftAt_p60 F_X7_liftAt_p101
      rw [if_neg z]
      simp only [hC.r801, lr_some hC.k8, hC.n8, grd_pos i1, i2, hT.2.2 (k + 1) (by omega), c_cut (hI.dif (k := k) (by omega)), cl_some]
      rw [i64_of32 (by have := b1.1; have := b1.2; have := b2.1; have := b2.2; omega) (by have := b1.1; have := b1.2; have := b2.1; have := b2.2; omega)]
    · rw [if_pos (Int64.not_lt.mp hw), if_neg hw]
      exact hrec
theorem c_liftAt {x o : Nat} {M W : Mem} (hC : CSh x M) (hI : MI o W) (hT : TaR x M o W) (w : Int64) : F_X7_liftAt M (x + 6) w = some (M, lfS W o w) := by
  have h8 := hI.np8
  unfold F_X7_liftAt lfS liftS
  obtain ⟨n, hn⟩ : ∃ z, FU = z + 1 := ⟨999999, rfl⟩
  have hn9 : 100 < n := by unfold FU at hn; omega
  rw [hn]
  unfold F_X7_liftAt_p10
  rw [hT.1, hI.np]
  by_cases h0 : npW W o = 0
  · rw [if_pos h0, if_pos (by rw [h0]; decide)]
    rfl
  · have z1 : ¬ Int32.ofNat (npW W o) ≤ (0 : Int32) := by
      rw [show (0 : Int32) = Int32.ofNat 0 from rfl, ofN_le (by omega) (by omega)]
      omega
    have z2 : inb (0 : Int32) 8 := by decide
    have z3 : ixn (0 : Int32) = 0 := by decide
    have z4 : ¬ Int32.ofNat 8 ≤ (0 : Int32) := by decide
    have z5 : (0 : Int32) + 1 = Int32.ofNat (0 + 1) := by decide
    rw [if_neg h0, if_neg z1]
    simp only [hC.r800, hC.r801, lr_some hC.k7, lr_some hC.k8, hC.n7, hC.n8, if_neg z4, grd_pos z2, z3, bnd, lg_cmp_ge, hT.2.1 0 (by omega), hT.2.2 0 (by omega)]
    have hrec := c_lift_loop hC hI hT w (npW W o - 1) 0 n (by omega) (by omega)
    by_cases hw : w < (1000 : Int64) * (gA W (o + 19) 0).toInt64
    · rw [if_neg (Int64.not_le.mpr hw), if_pos (Int64.le_of_lt hw)]
      unfold F_X7_liftAt_p60 F_X7_liftAt_p101
      rw [if_pos rfl]
      simp only [hC.r801, lr_some hC.k8, hC.n8, grd_pos z2, z3, hT.2.2 0 (by omega)]
    · rw [if_pos (Int64.not_lt.mp hw), z5, hrec]
      by_cases hw2 : w ≤ (1000 : Int64) * (gA W (o + 19) 0).toInt64
      · rw [if_pos hw2]
        have hweq : w = (1000 : Int64) * (gA W (o + 19) 0).toInt64 := Int64.le_antisymm hw2 (Int64.not_lt.mp hw)
        by_cases h1 : npW W o = 1
        · rw [h1]
          rfl
        · obtain ⟨r, hr⟩ : ∃ z, npW W o - 1 = z + 1 := ⟨npW W o - 2, by omega⟩
          rw [hr]
          unfold liftL
          have b0 := (hI.po (k := 0) (by omega)).1
          have b1 := (hI.po (k := 1) (by omega)).1
          have hris := hI.ris (k := 0) (by omega)
          have e0 := k1000 (x := gA W (o + 19) 0) ⟨by have := b0.1; omega, by have := b0.2; omega⟩
          have e1 := k1000 (x := gA W (o + 19) 1) ⟨by have := b1.1; omega, by have := b1.2; omega⟩
          have hlt : w < (1000 : Int64) * (gA W (o + 19) (0 + 1)).toInt64 := by
            rw [hweq, Int64.lt_iff_toInt_lt, e0]
            show _ < ((1000 : Int64) * (gA W (o + 19) 1).toInt64).toInt
            rw [e1]
            have hris : (gA W (o + 19) 0).toInt < (gA W (o + 19) 1).toInt := hris
            omega
          rw [if_pos hlt, ← hweq, Int64.sub_self, Int64.mul_zero, Int64.zero_div, Int64.add_zero]
      · rw [if_neg hw2]
