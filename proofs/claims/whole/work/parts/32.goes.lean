theorem tdiv_nn {x y : Int} (hx : 0 ≤ x) (hy : 0 < y) : 0 ≤ x.tdiv y ∧ x.tdiv y * y ≤ x ∧ x < x.tdiv y * y + y := by
  have h1 := Int.tdiv_mul_add_tmod x y
  have h2 := Int.tmod_nonneg y hx
  have h3 := Int.tmod_lt_of_pos x hy
  have h4 := Int.tdiv_nonneg hx (Int.le_of_lt hy)
  omega
theorem tdiv_np {x y : Int} (hx : x ≤ 0) (hy : 0 < y) : x.tdiv y ≤ 0 ∧ x ≤ x.tdiv y * y ∧ x.tdiv y * y < x + y := by
  obtain ⟨h1, h2, h3⟩ := tdiv_nn (x := -x) (y := y) (by omega) hy
  rw [Int.neg_tdiv, Int.neg_mul] at *
  omega
theorem tdiv_mono {x z y : Int} (h : x ≤ z) (hy : 0 < y) : x.tdiv y ≤ z.tdiv y := by
  rcases Int.le_total 0 x with h0 | h0
  · rw [Int.tdiv_eq_ediv_of_nonneg h0, Int.tdiv_eq_ediv_of_nonneg (by omega)]
    exact Int.ediv_le_ediv hy h
  · rcases Int.le_total 0 z with h1 | h1
    · have := (tdiv_np h0 hy).1
      have := (tdiv_nn h1 hy).1
      omega
    · have e1 : x.tdiv y = -((-x) / y) := by rw [← Int.tdiv_eq_ediv_of_nonneg (show 0 ≤ -x by omega), Int.neg_tdiv]; omega
      have e2 : z.tdiv y = -((-z) / y) := by rw [← Int.tdiv_eq_ediv_of_nonneg (show 0 ≤ -z by omega), Int.neg_tdiv]; omega
      have := Int.ediv_le_ediv hy (show -z ≤ -x by omega)
      omega
theorem i64_rng (x : Int64) : -9223372036854775808 ≤ x.toInt ∧ x.toInt < 9223372036854775808 := by
  have h1 := Int64.le_toInt x
  have h2 := Int64.toInt_lt x
  exact ⟨h1, h2⟩
theorem i64_div {x y : Int64} (hy : 0 < y.toInt) : (x / y).toInt = x.toInt.tdiv y.toInt := by
  have hx := i64_rng x
  rw [Int64.toInt_div, Int.bmod_def]
  rcases Int.le_total 0 x.toInt with h0 | h0
  · obtain ⟨h1, h2, h3⟩ := tdiv_nn h0 hy
    have h4 : x.toInt.tdiv y.toInt ≤ x.toInt.tdiv y.toInt * y.toInt := by
      have := Int.mul_le_mul_of_nonneg_left (show 1 ≤ y.toInt by omega) h1
      rw [Int.mul_one] at this
      exact this
    generalize x.toInt.tdiv y.toInt = z at *
    omega
  · obtain ⟨h1, h2, h3⟩ := tdiv_np h0 hy
    have h4 : x.toInt.tdiv y.toInt * y.toInt ≤ x.toInt.tdiv y.toInt := by
      have := Int.mul_le_mul_of_nonpos_left h1 (show 1 ≤ y.toInt by omega)
      rw [Int.mul_one] at this
      exact this
    generalize x.toInt.tdiv y.toInt = z at *
    omega
theorem tdiv_part {D X Y : Int} (hX : 0 ≤ X) (hXY : X < Y) : (0 ≤ D → 0 ≤ (D * X).tdiv Y ∧ (D * X).tdiv Y ≤ D) ∧ (D ≤ 0 → D ≤ (D * X).tdiv Y ∧ (D * X).tdiv Y ≤ 0) := by
  have hY : 0 < Y := by omega
  constructor
  · intro hD
    refine ⟨(tdiv_nn (Int.mul_nonneg hD hX) hY).1, ?_⟩
    have h1 := tdiv_mono (Int.mul_le_mul_of_nonneg_left (Int.le_of_lt hXY) hD) hY
    rw [Int.mul_tdiv_cancel _ (by omega)] at h1
    exact h1
  · intro hD
    have hm : D * X ≤ 0 := Int.mul_nonpos_of_nonpos_of_nonneg hD hX
    refine ⟨?_, (tdiv_np hm hY).1⟩
    have h1 := tdiv_mono (Int.mul_le_mul_of_nonpos_left hD (Int.le_of_lt hXY)) hY
    rw [Int.mul_tdiv_cancel _ (by omega)] at h1
    exact h1
theorem k1000 {x : Int32} (h : bt x (-100) 100) : ((1000 : Int64) * x.toInt64).toInt = 1000 * x.toInt := by
  have h1 := h.1
  have h2 := h.2
  have e0 : (1000 : Int64).toInt = 1000 := by decide
  rw [i64_mul (by rw [e0, Int32.toInt_toInt64]; omega) (by rw [e0, Int32.toInt_toInt64]; omega), e0, Int32.toInt_toInt64]
theorem liftL_bt {pw pl : Nat → Int32} {np : Nat} (hp : ∀ k, k < np → bt (pw k) (-20) 99 ∧ bt (pl k) 100 999) {w : Int64} : ∀ (r k : Nat), k + r + 1 = np → 1000 * (pw k).toInt ≤ w.toInt → 100 ≤ (liftL pw pl w r k).toInt ∧ (liftL pw pl w r k).toInt ≤ 999 := by
  intro r
  induction r with
  | zero =>
    intro k hk hw
    have := (hp k (by omega)).2
    unfold liftL
    rw [Int32.toInt_toInt64]
    exact this
  | succ r ih =>
    intro k hk hw
    obtain ⟨a1, a2⟩ := hp k (by omega)
    obtain ⟨b1, b2⟩ := hp (k + 1) (by omega)
    have a1l := a1.1
    have a1h := a1.2
    have b1l := b1.1
    have b1h := b1.2
    have a2l := a2.1
    have a2h := a2.2
    have b2l := b2.1
    have b2h := b2.2
    have eA := k1000 (x := pw k) ⟨by omega, by omega⟩
    have eB := k1000 (x := pw (k + 1)) ⟨by omega, by omega⟩
    unfold liftL
    by_cases hc : w < (1000 : Int64) * (pw (k + 1)).toInt64
    · rw [if_pos hc]
      have hc := Int64.lt_iff_toInt_lt.mp hc
      rw [eB] at hc
      have eD : (pl (k + 1) - pl k).toInt64.toInt = (pl (k + 1)).toInt - (pl k).toInt := by rw [Int32.toInt_toInt64, i32_sub (by omega) (by omega)]
      have eX : (w - (1000 : Int64) * (pw k).toInt64).toInt = w.toInt - 1000 * (pw k).toInt := by rw [i64_sub (by rw [eA]; omega) (by rw [eA]; omega), eA]
      have eY : ((1000 : Int64) * (pw (k + 1)).toInt64 - (1000 : Int64) * (pw k).toInt64).toInt = 1000 * (pw (k + 1)).toInt - 1000 * (pw k).toInt := by rw [i64_sub (by rw [eA, eB]; omega) (by rw [eA, eB]; omega), eA, eB]
      have hX : 0 ≤ w.toInt - 1000 * (pw k).toInt := by omega
      have hXY : w.toInt - 1000 * (pw k).toInt < 1000 * (pw (k + 1)).toInt - 1000 * (pw k).toInt := by omega
      have hP := tdiv_part (D := (pl (k + 1)).toInt - (pl k).toInt) hX hXY
      have m1 : ((pl (k + 1)).toInt - (pl k).toInt) * (w.toInt - 1000 * (pw k).toInt) ≤ 899 * 119000 := by
        rcases Int.le_total 0 ((pl (k + 1)).toInt - (pl k).toInt) with hd | hd
        · exact Int.mul_le_mul (by omega) (by omega) hX (by omega)
        · have := Int.mul_nonpos_of_nonpos_of_nonneg hd hX
          omega
      have m2 : -(899 * 119000) ≤ ((pl (k + 1)).toInt - (pl k).toInt) * (w.toInt - 1000 * (pw k).toInt) := by
        rcases Int.le_total 0 ((pl (k + 1)).toInt - (pl k).toInt) with hd | hd
        · have := Int.mul_nonneg hd hX
          omega
        · have := Int.mul_le_mul (show -((pl (k + 1)).toInt - (pl k).toInt) ≤ 899 by omega) (show w.toInt - 1000 * (pw k).toInt ≤ 119000 by omega) hX (by omega)
          rw [Int.neg_mul] at this
          omega
      have eM : ((pl (k + 1) - pl k).toInt64 * (w - (1000 : Int64) * (pw k).toInt64)).toInt = ((pl (k + 1)).toInt - (pl k).toInt) * (w.toInt - 1000 * (pw k).toInt) := by rw [i64_mul (by rw [eD, eX]; omega) (by rw [eD, eX]; omega), eD, eX]
      have eQ := i64_div (x := (pl (k + 1) - pl k).toInt64 * (w - (1000 : Int64) * (pw k).toInt64)) (y := (1000 : Int64) * (pw (k + 1)).toInt64 - (1000 : Int64) * (pw k).toInt64) (by rw [eY]; omega)
      rw [eM, eY] at eQ
      have hQ : (0 ≤ (pl (k + 1)).toInt - (pl k).toInt ∧ 0 ≤ (((pl (k + 1)).toInt - (pl k).toInt) * (w.toInt - 1000 * (pw k).toInt)).tdiv (1000 * (pw (k + 1)).toInt - 1000 * (pw k).toInt) ∧ (((pl (k + 1)).toInt - (pl k).toInt) * (w.toInt - 1000 * (pw k).toInt)).tdiv (1000 * (pw (k + 1)).toInt - 1000 * (pw k).toInt) ≤ (pl (k + 1)).toInt - (pl k).toInt) ∨ ((pl (k + 1)).toInt - (pl k).toInt ≤ (((pl (k + 1)).toInt - (pl k).toInt) * (w.toInt - 1000 * (pw k).toInt)).tdiv (1000 * (pw (k + 1)).toInt - 1000 * (pw k).toInt) ∧ (((pl (k + 1)).toInt - (pl k).toInt) * (w.toInt - 1000 * (pw k).toInt)).tdiv (1000 * (pw (k + 1)).toInt - 1000 * (pw k).toInt) ≤ 0) := by
        rcases Int.le_total 0 ((pl (k + 1)).toInt - (pl k).toInt) with hd | hd
        · exact Or.inl ⟨hd, hP.1 hd⟩
        · exact Or.inr (hP.2 hd)
      rw [← eQ] at hQ
      generalize (pl (k + 1) - pl k).toInt64 * (w - (1000 : Int64) * (pw k).toInt64) / ((1000 : Int64) * (pw (k + 1)).toInt64 - (1000 : Int64) * (pw k).toInt64) = z at hQ ⊢
      have e1 := Int32.toInt_toInt64 (pl k)
      rw [i64_add (by rw [e1]; omega) (by rw [e1]; omega), e1]
      omega
    · rw [if_neg hc]
      have hc : ¬ w.toInt < ((1000 : Int64) * (pw (k + 1)).toInt64).toInt := fun z => hc (Int64.lt_iff_toInt_lt.mpr z)
      rw [eB] at hc
      exact ih (k + 1) (by omega) (by omega)
theorem lift_bt {o : Nat} {M : Mem} (hI : MI o M) (w : Int64) : 100 ≤ (lfS M o w).toInt ∧ (lfS M o w).toInt ≤ 999 := by
  unfold lfS liftS
  by_cases h0 : npW M o = 0
  · rw [if_pos h0]
    decide
  · rw [if_neg h0]
    obtain ⟨a1, a2⟩ := hI.po (k := 0) (by omega)
    by_cases hw : w ≤ (1000 : Int64) * (gA M (o + 19) 0).toInt64
    · rw [if_pos hw, Int32.toInt_toInt64]
      exact a2
    · rw [if_neg hw]
      have hw : ¬ w.toInt ≤ ((1000 : Int64) * (gA M (o + 19) 0).toInt64).toInt := fun z => hw (Int64.le_iff_toInt_le.mpr z)
      rw [k1000 ⟨by have := a1.1; omega, by have := a1.2; omega⟩] at hw
      exact liftL_bt (fun k hk => hI.po hk) (npW M o - 1) 0 (by omega) (by omega)
theorem m_goes {o hr : Nat} {M : Mem} (hI : MI o M) (hh : gI M 1301 o = Int32.ofNat hr) (hhr : hr ≤ 20000) (h g t : Nat → Int64) (q : Nat → Nat → Int64) : ∃ q1, F_X12_goes (HM o M h g t q) o = some (sI (HM o M (hourS M o hr h g t).1 (hourS M o hr h g t).2.1 (hourS M o hr h g t).2.2 q1) 1301 o (Int32.ofNat (hr + 1)), ()) := by
  have hS := hI.sh
  have hb8 := hI.nb8
  have i1 : inb (Int32.ofNat (hr % 24)) 24 := ofN_inb (by omega) (by omega)
  have i2 : ixn (Int32.ofNat (hr % 24)) = hr % 24 := ofN_ix (by omega)
  have c1 : inb (1 : Int32) 9 := by decide
  have c4 : inb (4 : Int32) 9 := by decide
  have c5 : inb (5 : Int32) 9 := by decide
  have c6 : inb (6 : Int32) 9 := by decide
  have d1 : ixn (1 : Int32) = 1 := by decide
  have d4 : ixn (4 : Int32) = 4 := by decide
  have d5 : ixn (5 : Int32) = 5 := by decide
  have d6 : ixn (6 : Int32) = 6 := by decide
  obtain ⟨q1, e1, hq⟩ := m_begins hI hh hhr h g t q
  refine ⟨q1, ?_⟩
  have hWQ : WQ M o h q1 := fun b hb k hk => (hq b hb).2.2.2 k hk
  have e2 := m_sun_loop hI g q1 (tk := mayS M o hr h 1) (fun b hb => (hq b hb).1) F_X12_goes_p96 (nbW M o) 0 FU (gA M (o + 22) (hr % 24)).toInt64 h t (by omega) (by unfold FU; omega)
  have e3 := fun l p h1 g1 t1 => m_met_loop hI q1 (gv := mayS M o hr h 0) (lf := fun b => lfS M o (wS M o h b 0)) (w0 := fun b => wS M o h b 0) (fun b hb => ⟨(hq b hb).2.1, (hq b hb).2.2.1, ((hq b hb).2.2.2 0 (by have := hI.rg1 hb; omega)).1, i64_ne (by have := (lift_bt hI (wS M o h b 0)).1; omega)⟩) F_X12_goes_p335 (nbW M o) 0 FU l p h1 g1 t1 (by omega) (by unfold FU; omega)
  have e4 := fun h1 g1 t1 => m_ground hI (h0 := h) h1 g1 t1 hWQ
  have e5 := fun h1 g1 t1 => hm_need hI hhr h1 g1 t1 q1
  unfold F_X12_goes
  rw [e1, cl_some]
  simp only [gR_HM, gK_HM, gN_HM, gA_HM, gI_HM, hS.r1326, lr_some hS.k22, hS.n22, hh, m24 (show hr < 2147483648 by omega), grd_pos i1, i2, bnd]
  have e2 : F_X12_goes_p20 F_X12_goes_p96 FU (HM o M h g t q1) o (gA M (o + 22) (hr % 24)).toInt64 (0 : Int32) = _ := e2
  rw [e2]
  unfold F_X12_goes_p96
  simp only [gR_HM, gK_HM, gN_HM, gI_HM, hS.r1315, lr_some hS.k13, hS.n13, hh, grd_pos c1, d1, HM_13, sH13, bnd, e5, cl_some]
  have e3 : ∀ l p h1 g1 t1, F_X12_goes_p121 F_X12_goes_p335 FU (HM o M h1 g1 t1 q1) o l p (0 : Int32) = _ := e3
  rw [e3]
  unfold F_X12_goes_p335
  simp only [gR_HM, gK_HM, gN_HM, gI_HM, gA_HM, hS.r1315, hS.r1325, lr_some hS.k13, lr_some hS.k21, hS.n13, hS.n21, hh, m24 (show hr < 2147483648 by omega), grd_pos i1, i2, grd_pos c4, grd_pos c5, grd_pos c6, d4, d5, d6, HM_13, sH13, bnd, e4, cl_some, ofN_add1]
  rfl
