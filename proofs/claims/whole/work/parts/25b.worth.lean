theorem i32_le {x y : Int32} : x ≤ y ↔ x.toInt ≤ y.toInt := Int32.le_iff_toInt_le
theorem i32_lt {x y : Int32} : x < y ↔ x.toInt < y.toInt := Int32.lt_iff_toInt_lt
theorem t1000 : (1000 : Int32).toInt = 1000 := by decide
theorem t9 : (9 : Int32).toInt = 9 := by decide
theorem m_worth_op {o : Nat} {M : Mem} (hS : MSh o M) {k142 : Mem → Nat → Option (Mem × Int64)} {f : Nat} {s : Nat → Int64} {xr xn xj xe y1 y2 c : Int32} {r j n1 n2 : Nat} (hr1 : inb xr 30) (hr2 : ixn xr = r) (he : (62 : Int32) * xr + gA M (o + 26) r = xe) (hlt : ¬ xe ≤ xj) (h1 : inb xj 1860) (h2 : ixn xj = j) (hc : gA M (o + 27) j = c) (c1 : ¬ (1000 : Int32) ≤ c) (c2 : (9 : Int32) ≤ c) (p1 : 20 ≤ c.toInt) (p2 : c.toInt ≤ 26) (e1 : xn + (-1 : Int32) = y1) (e2 : y1 - (1 : Int32) = y2) (g1 : inb y1 62) (g2 : ixn y1 = n1) (g3 : inb y2 62) (g4 : ixn y2 = n2) :
    F_X12_worth_p7 k142 (f + 1) (wB M (o + 33) s) o xr xn xj = F_X12_worth_p7 k142 f (wB M (o + 33) (ud s n2 (clampS (twoS c (s n2) (s n1))))) o xr y1 (xj + 1) := by
  conv => lhs; unfold F_X12_worth_p7
  simp only [gR_wB, gK_wB, gN_wB, gA_wB, hS.r1332, hS.r1333, hS.r1345, lr_some hS.k26, lr_some hS.k27, lr_some hS.k33, hS.n26, hS.n27, hS.n33, grd_pos hr1, hr2, he, hlt, if_false, grd_pos h1, h2, hc, c1, c2, if_true, bnd, e1, e2, grd_pos g1, g2, grd_pos g3, g4]
  rw [m_two _ p1 p2, cl_some, m_clamp, cl_some]
  simp only [gN_wB, hS.n33, grd_pos g3, g4, sB_wB, gB_wB, if_true]
  unfold F_X12_worth_p136
  rfl
theorem m_worth_loop {o : Nat} {M : Mem} (hS : MSh o M) {r sz : Nat} (hr : r < 30) (hsz : sz ≤ 60) (hz : gA M (o + 26) r = Int32.ofNat sz) : ∀ (q j n f : Nat) (s : Nat → Int64), j + q = 62 * r + sz → q < f → okC (gA M (o + 27)) q j n →
    F_X12_worth_p7 F_X12_worth_p142 f (wB M (o + 33) s) o (Int32.ofNat r) (Int32.ofNat n) (Int32.ofNat j) = some (wB M (o + 33) (runC (gA M (o + 27)) (gB M (o + 32)) q j n s), runC (gA M (o + 27)) (gB M (o + 32)) q j n s 0) := by
  have hr1 : inb (Int32.ofNat r) 30 := ofN_inb (by omega) hr
  have hr2 : ixn (Int32.ofNat r) = r := ofN_ix (by omega)
  have hend : (62 : Int32) * Int32.ofNat r + Int32.ofNat sz = Int32.ofNat (62 * r + sz) := by
    rw [show (62 : Int32) = Int32.ofNat 62 from rfl, ofN_mulk, ← Int32.ofNat_add]
  have z1 : inb (0 : Int32) 62 := by decide
  have z2 : ixn (0 : Int32) = 0 := by decide
  intro q
  induction q with
  | zero =>
    intro j n f s hj hf hok
    obtain ⟨f, rfl⟩ : ∃ z, f = z + 1 := ⟨f - 1, by omega⟩
    unfold F_X12_worth_p7 F_X12_worth_p142
    simp only [gR_wB, gK_wB, gN_wB, gA_wB, gB_wB, hS.r1332, hS.r1345, lr_some hS.k26, lr_some hS.k33, hS.n26, hS.n33, grd_pos hr1, hr2, hz, hend, grd_pos z1, z2, if_true]
    rw [if_pos ((ofN_le (by omega) (by omega)).mpr (by omega))]
    unfold runC
    rfl
  | succ q ih =>
    intro j n f s hj hf hok
    obtain ⟨f, rfl⟩ : ∃ z, f = z + 1 := ⟨f - 1, by omega⟩
    have h1 : inb (Int32.ofNat j) 1860 := ofN_inb (by omega) (by omega)
    have h2 : ixn (Int32.ofNat j) = j := ofN_ix (by omega)
    have hlt : ¬ Int32.ofNat (62 * r + sz) ≤ Int32.ofNat j := by rw [ofN_le (by omega) (by omega)]; omega
    unfold okC at hok
    unfold runC
    rcases hok with ⟨hp, hn, hok⟩ | ⟨hp, hn2, hn, hok⟩
    · have n1 : inb (Int32.ofNat n) 62 := ofN_inb (by omega) (by omega)
      have n2 : ixn (Int32.ofNat n) = n := ofN_ix (by omega)
      unfold F_X12_worth_p7
      simp only [gR_wB, gK_wB, gN_wB, gA_wB, gB_wB, hS.r1332, hS.r1333, hS.r1345, lr_some hS.k26, lr_some hS.k27, lr_some hS.k33, hS.n26, hS.n27, hS.n33, grd_pos hr1, hr2, hz, hend, grd_pos h1, h2, if_true]
      rw [if_neg hlt]
      rcases hp with hp | hp
      · have c1 : (1000 : Int32) ≤ gA M (o + 27) j := by rw [i32_le, t1000]; exact hp.1
        have c2 : (9 : Int32) ≤ gA M (o + 27) j := by rw [i32_le, t9]; omega
        rw [if_pos c1, if_pos hp.1]
        unfold F_X12_worth_p45 F_X12_worth_p86 F_X12_worth_p136
        simp only [gR_wB, gK_wB, gN_wB, gA_wB, hS.r1333, hS.r1345, lr_some hS.k27, lr_some hS.k33, hS.n27, hS.n33, grd_pos h1, h2, c2, if_true, grd_pos n1, n2, bnd, sB_wB, ofN_succ]
        exact ih (j + 1) (n + 1) f _ (by omega) (by omega) hok
      · have c1 : ¬ (1000 : Int32) ≤ gA M (o + 27) j := by rw [i32_le, t1000]; omega
        have c2 : ¬ (9 : Int32) ≤ gA M (o + 27) j := by rw [i32_le, t9]; omega
        have c3 : inb (gA M (o + 27) j) 9 := ⟨hp.1, by omega⟩
        have c4 : ¬ o + 32 = o + 33 := by omega
        rw [if_neg c1, if_neg c2, if_neg (show ¬ 1000 ≤ (gA M (o + 27) j).toInt by omega), if_pos hp.2]
        unfold F_X12_worth_p45 F_X12_worth_p86 F_X12_worth_p136
        simp only [gR_wB, gK_wB, gN_wB, gA_wB, gB_wB, hS.r1333, hS.r1344, hS.r1345, lr_some hS.k27, lr_some hS.k32, lr_some hS.k33, hS.n27, hS.n32, hS.n33, grd_pos h1, h2, c2, c4, if_false, grd_pos n1, n2, grd_pos c3, bnd, sB_wB, ofN_succ]
        exact ih (j + 1) (n + 1) f _ (by omega) (by omega) hok
    · have c1 : ¬ (1000 : Int32) ≤ gA M (o + 27) j := by rw [i32_le, t1000]; have := hp.2; omega
      have c2 : (9 : Int32) ≤ gA M (o + 27) j := by rw [i32_le, t9]; have := hp.1; omega
      have e1 : Int32.ofNat n + (-1 : Int32) = Int32.ofNat (n - 1) := by
        rw [show (-1 : Int32) = -Int32.ofNat 1 by decide, ← Int32.sub_eq_add_neg, ofN_subk (by omega) (by omega)]
      have e2 : Int32.ofNat (n - 1) - (1 : Int32) = Int32.ofNat (n - 2) := by
        rw [show (1 : Int32) = Int32.ofNat 1 by decide, ofN_subk (by omega) (by omega), Nat.sub_sub]
      have n1 : inb (Int32.ofNat (n - 1)) 62 := ofN_inb (by omega) (by omega)
      have n2 : ixn (Int32.ofNat (n - 1)) = n - 1 := ofN_ix (by omega)
      have n3 : inb (Int32.ofNat (n - 2)) 62 := ofN_inb (by omega) (by omega)
      have n4 : ixn (Int32.ofNat (n - 2)) = n - 2 := ofN_ix (by omega)
      have he : (62 : Int32) * Int32.ofNat r + gA M (o + 26) r = Int32.ofNat (62 * r + sz) := by rw [hz]; exact hend
      rw [m_worth_op hS hr1 hr2 he hlt h1 h2 rfl c1 c2 hp.1 hp.2 e1 e2 n1 n2 n3 n4, ofN_succ, if_neg (show ¬ 1000 ≤ (gA M (o + 27) j).toInt by have := hp.2; omega), if_neg (show ¬ (gA M (o + 27) j).toInt < 9 by have := hp.1; omega)]
      exact ih (j + 1) (n - 1) f _ (by omega) (by omega) hok
