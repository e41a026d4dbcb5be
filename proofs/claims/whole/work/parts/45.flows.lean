theorem c_lead_loop {x p o : Nat} {M W : Mem} (hI : MI o W) {ba : Nat → Nat} {ra : Nat → Nat → Nat} (hB : BoS p M o W ba ra) (hH : BoH p M o W ba) {h φ2 φ3 φg t l s : Nat → Int64} (hw : AW W o ra φ3 h) {b : Nat} (hb : b < nbW W o) : ∀ (r k f : Nat) (φ4 fl : Nat → Int64), k + r + 1 = rgW W o b → r < f → AG (nbW W o) (rgW W o) ra φ4 fl →
    ∃ φ5, F_X0_leadOut_p18 F_X0_leadOut_p98 f (PM M x p φ2 φ3 φ4 φg t l s) (ba b) ((1000 : Int64) * (gA W (o + 7) b).toInt64) (ra b k) (Int32.ofNat (k + 1)) = some (PM M x p φ2 φ3 φ5 φg t l s, lostV W o h b) ∧ AG (nbW W o) (rgW W o) ra φ5 (ad (app fl (leadO (ldV W o h b) b r k)) (8 * b + (rgW W o b - 1)) (- lostV W o h b)) ∧ FR (nbW W o) (rgW W o) ra φ4 φ5 := by
  obtain ⟨-, hinj, -, hbo⟩ := hB
  obtain ⟨-, e0, e1, e2, e3, e5, e6, ⟨la, e4, hla⟩, hr⟩ := hbo b hb
  obtain ⟨d7, d8, d9⟩ := hH.2 b hb
  have h8 : ∀ b, b < nbW W o → rgW W o b ≤ 8 := fun b hb => hI.rg8 hb
  have hr8 := h8 b hb
  intro r
  induction r with
  | zero =>
    intro k f φ4 fl hk hf hA
    obtain ⟨f, rfl⟩ : ∃ z, f = z + 1 := ⟨f - 1, by omega⟩
    have hkr : rgW W o b - 1 = k := by omega
    have hw1 := hw b k hb (by omega)
    have ev : (gA W (o + 8) b).toInt64 * (φ3 (ra b k) - (1000 : Int64) * (gA W (o + 7) b).toInt64) / 100 = lostV W o h b := by
      unfold lostV
      rw [hw1, hkr]
    refine ⟨ud φ4 (ra b k) (φ4 (ra b k) - lostV W o h b), ?_, ?_, FR.ud φ4 hb (by omega) _⟩
    · unfold F_X0_leadOut_p18 F_X0_leadOut_p98
      simp only [gR_PM, gK_PM, gI_PM, e4, lr_some hla.1, c_size, cl_some, hla.2.1]
      rw [if_pos ((ofN_le (by omega) (by omega)).mpr (by omega))]
      simp only [bnd, PM_503, PM_504, d7, ev, sP504]
    · rw [hkr]
      have := AG.ud hinj h8 hA hb (show k < rgW W o b by omega) (φ4 (ra b k) - lostV W o h b)
      rw [hA b k hb (by omega), i64_sub_neg] at this
      rw [hA b k hb (by omega), i64_sub_neg]
      exact this
  | succ r ih =>
    intro k f φ4 fl hk hf hA
    obtain ⟨f, rfl⟩ : ∃ z, f = z + 1 := ⟨f - 1, by omega⟩
    have hw1 := hw b k hb (by omega)
    have hw2 := hw b (k + 1) hb (by omega)
    have hg := c_get (lisPM hla x p φ2 φ3 φ4 φg t l s) (i := k + 1) (by omega)
    have ev : (gA W (o + 8) b).toInt64 * (φ3 (ra b k) - φ3 (ra b (k + 1))) / 100 = ldV W o h b k := by
      unfold ldV
      rw [hw1, hw2]
    have hA1 := AG.ud hinj h8 hA hb (show k < rgW W o b by omega) (φ4 (ra b k) - ldV W o h b k)
    have hA2 := AG.ud hinj h8 hA1 hb (show k + 1 < rgW W o b by omega) (ud φ4 (ra b k) (φ4 (ra b k) - ldV W o h b k) (ra b (k + 1)) + ldV W o h b k)
    obtain ⟨φ5, q1, q2, q3⟩ := ih (k + 1) f _ _ (by omega) (by omega) hA2
    refine ⟨φ5, ?_, ?_, ?_⟩
    · rw [← q1]
      conv => lhs; unfold F_X0_leadOut_p18
      simp only [gR_PM, gK_PM, gI_PM, e4, lr_some hla.1, c_size, cl_some, hla.2.1]
      rw [if_neg (by rw [ofN_le (by omega) (by omega)]; omega)]
      simp only [hg, cl_some, gK_PM, lr_some (hr (k + 1) (by omega)).1, bnd, PM_503, PM_504, gI_PM, d7, ev, sP504, ofN_succ]
    · have e : ud (ud fl (8 * b + k) (φ4 (ra b k) - ldV W o h b k)) (8 * b + (k + 1)) (ud φ4 (ra b k) (φ4 (ra b k) - ldV W o h b k) (ra b (k + 1)) + ldV W o h b k) = ad (ad fl (8 * b + k) (- ldV W o h b k)) (8 * b + (k + 1)) (ldV W o h b k) := by
        rw [hA1 b (k + 1) hb (by omega), hA b k hb (by omega), i64_sub_neg]
        rfl
      rw [e] at q2
      exact q2
    · exact ((FR.ud φ4 hb (by omega) _).trans (FR.ud _ hb (by omega) _)).trans q3
theorem c_leadOut {x p o : Nat} {M W : Mem} (hI : MI o W) {ba : Nat → Nat} {ra : Nat → Nat → Nat} (hB : BoS p M o W ba ra) (hH : BoH p M o W ba) {h φ2 φ3 φg t l s : Nat → Int64} (hw : AW W o ra φ3 h) {b : Nat} (hb : b < nbW W o) (φ4 fl : Nat → Int64) (hA : AG (nbW W o) (rgW W o) ra φ4 fl) :
    ∃ φ5, F_X0_leadOut (PM M x p φ2 φ3 φ4 φg t l s) (ba b) = some (PM M x p φ2 φ3 φ5 φg t l s, lostV W o h b) ∧ AG (nbW W o) (rgW W o) ra φ5 (ad (app fl (leadO (ldV W o h b) b (rgW W o b - 1) 0)) (8 * b + (rgW W o b - 1)) (- lostV W o h b)) ∧ FR (nbW W o) (rgW W o) ra φ4 φ5 := by
  have hr1 := hI.rg1 hb
  have hr8 := hI.rg8 hb
  obtain ⟨φ5, q1, q2, q3⟩ := c_lead_loop (x := x) (φ2 := φ2) (φg := φg) (t := t) (l := l) (s := s) hI hB hH hw hb (rgW W o b - 1) 0 FU φ4 fl (by omega) (by unfold FU; omega) hA
  obtain ⟨-, -, -, hbo⟩ := hB
  obtain ⟨-, e0, e1, e2, e3, e5, e6, ⟨la, e4, hla⟩, hr⟩ := hbo b hb
  refine ⟨φ5, ?_, q2, q3⟩
  unfold F_X0_leadOut
  simp only [bnd, gR_PM, gK_PM, gI_PM, e3, e5, lr_some (hr 0 (by omega)).1]
  exact q1
theorem c_wash_loop {x p o : Nat} {M W : Mem} (hI : MI o W) {ba : Nat → Nat} {ra : Nat → Nat → Nat} (hB : BoS p M o W ba ra) (hH : BoH p M o W ba) {h φ2 φ3 φg t l s : Nat → Int64} (h2 : AG (nbW W o) (rgW W o) ra φ2 h) {b : Nat} (hb : b < nbW W o) : ∀ (r k f : Nat) (φ4 fl : Nat → Int64) (acc : Int64), k + r = rgW W o b → r < f → AG (nbW W o) (rgW W o) ra φ4 fl →
    ∃ φ5, F_X0_wash_p4 F_X0_wash_p74 f (PM M x p φ2 φ3 φ4 φg t l s) (ba b) acc (Int32.ofNat k) = some (PM M x p φ2 φ3 φ5 φg t l s, sumR (washV W o h b) r k acc) ∧ AG (nbW W o) (rgW W o) ra φ5 (app fl (washO (washV W o h b) b r k)) ∧ FR (nbW W o) (rgW W o) ra φ4 φ5 := by
  obtain ⟨-, hinj, -, hbo⟩ := hB
  obtain ⟨-, e0, e1, e2, e3, e5, e6, ⟨la, e4, hla⟩, hr⟩ := hbo b hb
  obtain ⟨d7, d8, d9⟩ := hH.2 b hb
  have h8 : ∀ b, b < nbW W o → rgW W o b ≤ 8 := fun b hb => hI.rg8 hb
  have hr8 := h8 b hb
  intro r
  induction r with
  | zero =>
    intro k f φ4 fl acc hk hf hA
    obtain ⟨f, rfl⟩ : ∃ z, f = z + 1 := ⟨f - 1, by omega⟩
    refine ⟨φ4, ?_, hA, FR.refl _⟩
    unfold F_X0_wash_p4 F_X0_wash_p74
    simp only [gR_PM, gK_PM, gI_PM, e4, lr_some hla.1, c_size, cl_some, hla.2.1]
    rw [if_pos ((ofN_le (by omega) (by omega)).mpr (by omega))]
    rfl
  | succ r ih =>
    intro k f φ4 fl acc hk hf hA
    obtain ⟨f, rfl⟩ : ∃ z, f = z + 1 := ⟨f - 1, by omega⟩
    have hg := c_get (lisPM hla x p φ2 φ3 φ4 φg t l s) (i := k) (by omega)
    obtain ⟨r1, r2, r3⟩ := hr k (by omega)
    have ev : (gA W (o + 9) b).toInt64 * (φ2 (ra b k) - firstS (gA W (o + 5)) (gA W (o + 6)) (gA W (o + 7)) b k) / 1000 = washV W o h b k := by
      unfold washV
      rw [h2 b k hb (by omega), Int64.mul_comm]
    have hA1 := AG.ud hinj h8 hA hb (show k < rgW W o b by omega) (φ4 (ra b k) - washV W o h b k)
    obtain ⟨φ5, q1, q2, q3⟩ := ih (k + 1) f _ _ (acc + washV W o h b k) (by omega) (by omega) hA1
    refine ⟨φ5, ?_, ?_, (FR.ud φ4 hb (by omega) _).trans q3⟩
    · show _ = some (_, sumR (washV W o h b) r (k + 1) (acc + washV W o h b k))
      rw [← q1]
      conv => lhs; unfold F_X0_wash_p4
      simp only [gR_PM, gK_PM, gI_PM, e4, lr_some hla.1, c_size, cl_some, hla.2.1]
      rw [if_neg (by rw [ofN_le (by omega) (by omega)]; omega)]
      simp only [hg, cl_some, gK_PM, lr_some r1, bnd, PM_502, PM_501, PM_504, gI_PM, r3, d8, ev, sP504, ofN_succ]
    · rw [hA b k hb (by omega), i64_sub_neg] at q2
      exact q2
theorem c_wash {x p o : Nat} {M W : Mem} (hI : MI o W) {ba : Nat → Nat} {ra : Nat → Nat → Nat} (hB : BoS p M o W ba ra) (hH : BoH p M o W ba) {h φ2 φ3 φg t l s : Nat → Int64} (h2 : AG (nbW W o) (rgW W o) ra φ2 h) {b : Nat} (hb : b < nbW W o) (φ4 fl : Nat → Int64) (hA : AG (nbW W o) (rgW W o) ra φ4 fl) :
    ∃ φ5, F_X0_wash (PM M x p φ2 φ3 φ4 φg t l s) (ba b) = some (PM M x p φ2 φ3 φ5 φg t l s, sumR (washV W o h b) (rgW W o b) 0 0) ∧ AG (nbW W o) (rgW W o) ra φ5 (app fl (washO (washV W o h b) b (rgW W o b) 0)) ∧ FR (nbW W o) (rgW W o) ra φ4 φ5 := by
  have hr8 := hI.rg8 hb
  exact c_wash_loop (x := x) hI hB hH h2 hb (rgW W o b) 0 FU φ4 fl 0 (by omega) (by unfold FU; omega) hA
theorem far_abs {x y : Int32} (hx : bt x 0 99) (hy : bt y 0 99) : (if 0 ≤ x - y then x - y else 0 - (x - y)) = (if y ≤ x then x - y else y - x) := by
  have h1 := hx.1
  have h2 := hx.2
  have h3 := hy.1
  have h4 := hy.2
  have z : (0 : Int32).toInt = 0 := by decide
  have e1 : (x - y).toInt = x.toInt - y.toInt := i32_sub (by omega) (by omega)
  have e2 : (y - x).toInt = y.toInt - x.toInt := i32_sub (by omega) (by omega)
  have e3 : (0 - (x - y)).toInt = y.toInt - x.toInt := by
    rw [i32_sub (by rw [e1, z]; omega) (by rw [e1, z]; omega), e1, z]
    omega
  by_cases c : y ≤ x
  · have c1 := i32_le.mp c
    rw [if_pos c, if_pos (i32_le.mpr (by rw [e1, z]; omega))]
  · have c1 : ¬ y.toInt ≤ x.toInt := fun k => c (i32_le.mpr k)
    rw [if_neg c, if_neg (fun k => by have := i32_le.mp k; rw [e1, z] at this; omega)]
    exact i32_ext (by rw [e3, e2])
theorem far_max (X Y : Int32) : (if X < Y then Y else X) = (if X ≤ Y then Y else X) := by
  by_cases c : X < Y
  · rw [if_pos c, if_pos (Int32.le_of_lt c)]
  · rw [if_neg c]
    by_cases c2 : X ≤ Y
    · rw [if_pos c2]
      have c := i32_nlt c
      have c2 := i32_le.mp c2
      exact i32_ext (by omega)
    · rw [if_neg c2]
theorem c_shareWith {x p o : Nat} {M W : Mem} (hI : MI o W) {ba : Nat → Nat} {ra : Nat → Nat → Nat} (hB : BoS p M o W ba ra) {h φ2 φ3 φg t l s : Nat → Int64} (hw : AW W o ra φ3 h) {a b : Nat} (ha : a < nbW W o) (hb : b < nbW W o) (φ4 fl : Nat → Int64) (hA : AG (nbW W o) (rgW W o) ra φ4 fl) :
    ∃ φ5, F_X0_shareWith (PM M x p φ2 φ3 φ4 φg t l s) (ba a) (ba b) (gI W 1312 o) = some (PM M x p φ2 φ3 φ5 φg t l s, ()) ∧ AG (nbW W o) (rgW W o) ra φ5 (app fl (pairO W o h a b)) ∧ FR (nbW W o) (rgW W o) ra φ4 φ5 := by
  obtain ⟨-, hinj, -, hbo⟩ := hB
  obtain ⟨-, -, a1, a2, -, -, a6, -, har⟩ := hbo a ha
  obtain ⟨-, -, b1, b2, -, -, b6, -, hbr⟩ := hbo b hb
  have h8 : ∀ b, b < nbW W o → rgW W o b ≤ 8 := fun b hb => hI.rg8 hb
  have r1 := hI.rg1 ha
  have r2 := hI.rg1 hb
  obtain ⟨-, -, -, -, -, x1, y1⟩ := hI.bo ha
  obtain ⟨-, -, -, -, -, x2, y2⟩ := hI.bo hb
  have hf := far_ne hI ha hb
  have ef : (if (if 0 ≤ gA W (o + 2) a - gA W (o + 2) b then gA W (o + 2) a - gA W (o + 2) b else 0 - (gA W (o + 2) a - gA W (o + 2) b)) < (if 0 ≤ gA W (o + 3) a - gA W (o + 3) b then gA W (o + 3) a - gA W (o + 3) b else 0 - (gA W (o + 3) a - gA W (o + 3) b)) then (if 0 ≤ gA W (o + 3) a - gA W (o + 3) b then gA W (o + 3) a - gA W (o + 3) b else 0 - (gA W (o + 3) a - gA W (o + 3) b)) else (if 0 ≤ gA W (o + 2) a - gA W (o + 2) b then gA W (o + 2) a - gA W (o + 2) b else 0 - (gA W (o + 2) a - gA W (o + 2) b))) = farW W o a b := by
    rw [far_abs x1 x2, far_abs y1 y2, far_max]
    rfl
  have w1 := hw a (rgW W o a - 1) ha (by omega)
  have w2 := hw b (rgW W o b - 1) hb (by omega)
  have k1 := (har (rgW W o a - 1) (by omega)).1
  have k2 := (hbr (rgW W o b - 1) (by omega)).1
  have hA1 := AG.ud hinj h8 hA ha (show rgW W o a - 1 < rgW W o a by omega) (φ4 (ra a (rgW W o a - 1)) - shrV W o h a b)
  have hA2 := AG.ud hinj h8 hA1 hb (show rgW W o b - 1 < rgW W o b by omega) (ud φ4 (ra a (rgW W o a - 1)) (φ4 (ra a (rgW W o a - 1)) - shrV W o h a b) (ra b (rgW W o b - 1)) + shrV W o h a b)
  unfold F_X0_shareWith
  simp only [gI_PM, a1, a2, b1, b2, ef, bnd]
  by_cases hc : 9 < farW W o a b
  · have hc1 : ¬ farW W o a b ≤ 9 := Int32.not_le.mpr hc
    refine ⟨φ4, ?_, ?_, FR.refl _⟩
    · rw [if_neg hc1]
    · unfold pairO
      rw [if_pos hc]
      exact hA
  · have hc1 : farW W o a b ≤ 9 := Int32.not_lt.mp hc
    refine ⟨ud (ud φ4 (ra a (rgW W o a - 1)) (φ4 (ra a (rgW W o a - 1)) - shrV W o h a b)) (ra b (rgW W o b - 1)) (ud φ4 (ra a (rgW W o a - 1)) (φ4 (ra a (rgW W o a - 1)) - shrV W o h a b) (ra b (rgW W o b - 1)) + shrV W o h a b), ?_, ?_, (FR.ud φ4 ha (show rgW W o a - 1 < rgW W o a by omega) _).trans (FR.ud _ hb (show rgW W o b - 1 < rgW W o b by omega) _)⟩
    · rw [if_pos hc1]
      have ec : F_X11_cut (PM M x p φ2 φ3 φ4 φg t l s) ((gI W 1312 o).toInt64 * (wS W o h a (rgW W o a - 1) - wS W o h b (rgW W o b - 1))) ((100 : Int64) * (farW W o a b + 1).toInt64) = some (PM M x p φ2 φ3 φ4 φg t l s, shrV W o h a b) := c_cut hf.2
      simp only [gR_PM, gK_PM, a6, b6, lr_some k1, lr_some k2, PM_503, w1, w2, ec, cl_some, gR_PM, gK_PM, PM_504, sP504]
    · unfold pairO
      rw [if_neg hc]
      have e : ud (ud fl (8 * a + (rgW W o a - 1)) (φ4 (ra a (rgW W o a - 1)) - shrV W o h a b)) (8 * b + (rgW W o b - 1)) (ud φ4 (ra a (rgW W o a - 1)) (φ4 (ra a (rgW W o a - 1)) - shrV W o h a b) (ra b (rgW W o b - 1)) + shrV W o h a b) = app fl [(8 * a + (rgW W o a - 1), - shrV W o h a b), (8 * b + (rgW W o b - 1), shrV W o h a b)] := by
        rw [hA1 b (rgW W o b - 1) hb (by omega), hA a (rgW W o a - 1) ha (by omega), i64_sub_neg]
        rfl
      rw [e] at hA2
      exact hA2
theorem c_pair_loop {x p o : Nat} {M W : Mem} (hG : GrS x p M) (hI : MI o W) {ba : Nat → Nat} {ra : Nat → Nat → Nat} (hB : BoS p M o W ba ra) (hH : BoH p M o W ba) {h φ2 φ3 φg t l s : Nat → Int64} (hw : AW W o ra φ3 h) {a : Nat} (ha : a < nbW W o) (kk : Mem → Nat → Int32 → Option (Mem × Unit)) (y : Int32) : ∀ (r i f : Nat) (φ4 fl : Nat → Int64), i + r = nbW W o → r < f → AG (nbW W o) (rgW W o) ra φ4 fl →
    ∃ φ5, F_X1_layFlows_p57 kk f (PM M x p φ2 φ3 φ4 φg t l s) p y (ba a) (Int32.ofNat i) = kk (PM M x p φ2 φ3 φ5 φg t l s) p y ∧ AG (nbW W o) (rgW W o) ra φ5 (app fl (catR (pairO W o h a) r i)) ∧ FR (nbW W o) (rgW W o) ra φ4 φ5 := by
  obtain ⟨-, g0, g1, g2, g3, g4, g5, g6, g7, g8⟩ := hG
  have hLi := hB.1
  have h8 := hI.nb8
  intro r
  induction r with
  | zero =>
    intro i f φ4 fl hi hf hA
    obtain ⟨f, rfl⟩ : ∃ z, f = z + 1 := ⟨f - 1, by omega⟩
    refine ⟨φ4, ?_, hA, FR.refl _⟩
    unfold F_X1_layFlows_p57
    simp only [gR_PM, gK_PM, gI_PM, g3, lr_some g5, c_size, cl_some, hLi.2.1]
    rw [if_pos ((ofN_le (by omega) (by omega)).mpr (by omega))]
  | succ r ih =>
    intro i f φ4 fl hi hf hA
    obtain ⟨f, rfl⟩ : ∃ z, f = z + 1 := ⟨f - 1, by omega⟩
    have hib : i < nbW W o := by omega
    have hg := c_get (lisPM hLi x p φ2 φ3 φ4 φg t l s) (i := i) hib
    obtain ⟨φ5, q1, q2, q3⟩ := c_shareWith (x := x) (φ2 := φ2) (φg := φg) (t := t) (l := l) (s := s) hI hB hw ha hib φ4 fl hA
    obtain ⟨φ6, p1, p2, p3⟩ := ih (i + 1) f φ5 _ (by omega) (by omega) q2
    refine ⟨φ6, ?_, ?_, q3.trans p3⟩
    · rw [← p1]
      conv => lhs; unfold F_X1_layFlows_p57
      simp only [gR_PM, gK_PM, gI_PM, g3, lr_some g5, c_size, cl_some, hLi.2.1]
      rw [if_neg (by rw [ofN_le (by omega) (by omega)]; omega)]
      simp only [hg, cl_some, gK_PM, gI_PM, lr_some (hB.2.2.2 i hib).1, hH.1, q1, bnd, ofN_succ]
    · rw [catR_succ, app_append]
      exact p2
theorem c_lay_loop {x p o : Nat} {M W : Mem} (hG : GrS x p M) (hI : MI o W) {ba : Nat → Nat} {ra : Nat → Nat → Nat} (hB : BoS p M o W ba ra) (hH : BoH p M o W ba) {h φ2 φ3 φg l s : Nat → Int64} (h2 : AG (nbW W o) (rgW W o) ra φ2 h) (hw : AW W o ra φ3 h) (kk : Mem → Option (Mem × Unit)) : ∀ (r i f : Nat) (φ4 fl t : Nat → Int64), i + r = nbW W o → r < f → AG (nbW W o) (rgW W o) ra φ4 fl →
    ∃ φ5, F_X1_layFlows_p2 kk f (PM M x p φ2 φ3 φ4 φg t l s) p (Int32.ofNat i) = kk (PM M x p φ2 φ3 φ5 φg (app t (catR (ownT W o h) r i)) l s) ∧ AG (nbW W o) (rgW W o) ra φ5 (app fl (catR (fun b => ownO W o h b ++ pairsO W o h b) r i)) ∧ FR (nbW W o) (rgW W o) ra φ4 φ5 := by
  have hG0 := hG
  obtain ⟨-, g0, g1, g2, g3, g4, g5, g6, g7, g8⟩ := hG
  have hLi := hB.1
  have h8 := hI.nb8
  have c7 : inb (7 : Int32) 9 := by decide
  have c8 : inb (8 : Int32) 9 := by decide
  have d7 : ixn (7 : Int32) = 7 := by decide
  have d8 : ixn (8 : Int32) = 8 := by decide
  intro r
  induction r with
  | zero =>
    intro i f φ4 fl t hi hf hA
    obtain ⟨f, rfl⟩ : ∃ z, f = z + 1 := ⟨f - 1, by omega⟩
    refine ⟨φ4, ?_, hA, FR.refl _⟩
    unfold F_X1_layFlows_p2
    simp only [gR_PM, gK_PM, gI_PM, g3, lr_some g5, c_size, cl_some, hLi.2.1]
    rw [if_pos ((ofN_le (by omega) (by omega)).mpr (by omega))]
    rfl
  | succ r ih =>
    intro i f φ4 fl t hi hf hA
    obtain ⟨f, rfl⟩ : ∃ z, f = z + 1 := ⟨f - 1, by omega⟩
    have hib : i < nbW W o := by omega
    have hg := c_get (lisPM hLi x p φ2 φ3 φ4 φg t l s) (i := i) hib
    obtain ⟨φ5, q1, q2, q3⟩ := c_leadOut (x := x) (φ2 := φ2) (φg := φg) (t := t) (l := l) (s := s) hI hB hH hw hib φ4 fl hA
    obtain ⟨φ6, p1, p2, p3⟩ := c_wash (x := x) (φ3 := φ3) (φg := φg) (t := ud t 7 (t 7 + lostV W o h i)) (l := l) (s := s) hI hB hH h2 hib φ5 _ q2
    obtain ⟨φ7, s1, s2, s3⟩ := c_pair_loop (x := x) (φ2 := φ2) (φg := φg) (t := ud (ud t 7 (t 7 + lostV W o h i)) 8 (ud t 7 (t 7 + lostV W o h i) 8 + sumR (washV W o h i) (rgW W o i) 0 0)) (l := l) (s := s) hG0 hI hB hH hw hib (F_X1_layFlows_p93 (F_X1_layFlows_p2 kk f)) (Int32.ofNat i) (nbW W o - (i + 1)) (i + 1) FU φ6 _ (by omega) (by unfold FU; omega) p2
    obtain ⟨φ8, u1, u2, u3⟩ := ih (i + 1) f φ7 _ (ud (ud t 7 (t 7 + lostV W o h i)) 8 (ud t 7 (t 7 + lostV W o h i) 8 + sumR (washV W o h i) (rgW W o i) 0 0)) (by omega) (by omega) s2
    have et : ud (ud t 7 (t 7 + lostV W o h i)) 8 (ud t 7 (t 7 + lostV W o h i) 8 + sumR (washV W o h i) (rgW W o i) 0 0) = app t (ownT W o h i) := by
      show ad (ad t 7 (lostV W o h i)) 8 (sumR (washV W o h i) (rgW W o i) 0 0) = app (ad t 7 (lostV W o h i)) (washT (washV W o h i) (rgW W o i) 0)
      rw [sumR_wash, ad_zero]
    refine ⟨φ8, ?_, ?_, ((q3.trans p3).trans s3).trans u3⟩
    · rw [catR_succ, app_append, ← et, ← u1]
      conv => lhs; unfold F_X1_layFlows_p2
      simp only [gR_PM, gK_PM, gI_PM, g3, lr_some g5, c_size, cl_some, hLi.2.1]
      rw [if_neg (by rw [ofN_le (by omega) (by omega)]; omega)]
      simp only [hg, cl_some, gR_PM, gK_PM, gN_PM, lr_some (hB.2.2.2 i hib).1, g4, lr_some g6, g7, grd_pos c7, grd_pos c8, q1, p1, bnd, d7, d8, PM_t _ _ _ _ _ _ _ _ _ _ g8, sPt _ _ _ _ _ _ _ _ _ _ g8, ofN_add1]
      rw [s1]
      unfold F_X1_layFlows_p93
      simp only [bnd, ofN_succ]
    · rw [catR_succ, app_append]
      have e : app fl (ownO W o h i ++ pairsO W o h i) = app (app (ad (app fl (leadO (ldV W o h i) i (rgW W o i - 1) 0)) (8 * i + (rgW W o i - 1)) (- lostV W o h i)) (washO (washV W o h i) i (rgW W o i) 0)) (catR (pairO W o h i) (nbW W o - (i + 1)) (i + 1)) := by
        rw [app_append, show ownO W o h i = leadO (ldV W o h i) i (rgW W o i - 1) 0 ++ ((8 * i + (rgW W o i - 1), - lostV W o h i) :: washO (washV W o h i) i (rgW W o i) 0) from rfl, app_append]
        rfl
      rw [e]
      exact u2
theorem c_layFlows {x p o : Nat} {M W : Mem} (hG : GrS x p M) (hI : MI o W) {ba : Nat → Nat} {ra : Nat → Nat → Nat} (hB : BoS p M o W ba ra) (hH : BoH p M o W ba) {h φ2 φ3 φg l s : Nat → Int64} (h2 : AG (nbW W o) (rgW W o) ra φ2 h) (hw : AW W o ra φ3 h) (φ4 t : Nat → Int64) (hA : AG (nbW W o) (rgW W o) ra φ4 (fun _ => 0)) :
    ∃ φ5, F_X1_layFlows (PM M x p φ2 φ3 φ4 φg t l s) p = some (PM M x p φ2 φ3 φ5 φg (app t (grdT W o h)) l s, ()) ∧ AG (nbW W o) (rgW W o) ra φ5 (app (fun _ => 0) (grdO W o h)) ∧ FR (nbW W o) (rgW W o) ra φ4 φ5 := by
  have h8 := hI.nb8
  obtain ⟨φ5, q1, q2, q3⟩ := c_lay_loop (x := x) (φg := φg) (l := l) (s := s) hG hI hB hH h2 hw F_X1_layFlows_p99 (nbW W o) 0 FU φ4 _ t (by omega) (by unfold FU; omega) hA
  refine ⟨φ5, q1, ?_, q3⟩
  unfold grdO
  rw [app_cat2]
  exact q2
