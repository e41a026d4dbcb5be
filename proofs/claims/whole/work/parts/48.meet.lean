theorem c_isFrozen {M : Mem} {a r0 : Nat} (h5 : gR M 105 a = some r0) (hk : gK M r0 = 6) : F_X0_isFrozen M a = some (M, if gJ M 503 r0 ≤ 0 then 1 else 0) := by
  unfold F_X0_isFrozen F_X0_isFrozen_p17
  rw [h5, lr_some hk]
  by_cases c : gJ M 503 r0 ≤ 0
  · rw [if_neg (fun k => absurd ((lg_cmp_gt _ _).mp k) (Int64.not_lt.mpr c)), if_pos c, grd_pos (Or.inr rfl)]
  · rw [if_pos ((lg_cmp_gt _ _).mpr (Int64.not_le.mp c)), if_neg c, grd_pos (Or.inl rfl)]
theorem mLiftPM {x o : Nat} {M W : Mem} (hC : CSh x M) (hI : MI o W) (hT : TaR x M o W) (p : Nat) (φ2 φ3 φ4 φg t l s : Nat → Int64) (w : Int64) : F_X7_liftAt (PM M x p φ2 φ3 φ4 φg t l s) (x + 6) w = some (PM M x p φ2 φ3 φ4 φg t l s, lfS W o w) := c_liftAt (M := PM M x p φ2 φ3 φ4 φg t l s) hC hI hT w
theorem c_met_loop {x p o hr : Nat} {M W : Mem} (hC : CSh x M) (hG : GrS x p M) (hI : MI o W) {ba ua : Nat → Nat} {ra : Nat → Nat → Nat} (hTa : TaR x M o W) (hR : RuR x M o W ua) (hB : BoS p M o W ba ra) (hH : BoH p M o W ba) {h φ3 φ4 : Nat → Int64} (hN : ∀ b, b < nbW W o → NOk W o hr h b) (hw : AW W o ra φ3 h) (kk : Mem → Nat → Int64 → Int64 → Option (Mem × Unit)) : ∀ (r i f : Nat) (rest pw : Int64) (φ2 φg h1 g1 t l s : Nat → Int64), i + r = nbW W o → r < f → 0 ≤ rest.toInt → rest.toInt ≤ 2000000 → AG (nbW W o) (rgW W o) ra φ2 h1 → AGG (nbW W o) ba φg g1 → (∀ b, b < nbW W o → ∀ k, k < 5 → l k = nmS W o hr h b k) →
    ∃ φ5 φ6 l1 s1, F_X1_meet_p25 kk f (PM M x p φ2 φ3 φ4 φg t l s) p ((bestS (gA W (o + 24)) (gA W (o + 25)) 0 (Int32.ofNat (hr / 24)) (nrW W o)).map ua) rest pw (Int32.ofNat i) = kk (PM M x p φ5 φ3 φ4 φ6 (metR (mayS W o hr h 0) (fun b => lfS W o (wS W o h b 0)) (fun b => wS W o h b 0) (gA W (o + 10)) r i rest pw h1 g1 t).2.2.2.2 l1 s1) p (metR (mayS W o hr h 0) (fun b => lfS W o (wS W o h b 0)) (fun b => wS W o h b 0) (gA W (o + 10)) r i rest pw h1 g1 t).1 (metR (mayS W o hr h 0) (fun b => lfS W o (wS W o h b 0)) (fun b => wS W o h b 0) (gA W (o + 10)) r i rest pw h1 g1 t).2.1 ∧ AG (nbW W o) (rgW W o) ra φ5 (metR (mayS W o hr h 0) (fun b => lfS W o (wS W o h b 0)) (fun b => wS W o h b 0) (gA W (o + 10)) r i rest pw h1 g1 t).2.2.1 ∧ AGG (nbW W o) ba φ6 (metR (mayS W o hr h 0) (fun b => lfS W o (wS W o h b 0)) (fun b => wS W o h b 0) (gA W (o + 10)) r i rest pw h1 g1 t).2.2.2.1 ∧ FR (nbW W o) (rgW W o) ra φ2 φ5 ∧ FRG (nbW W o) ba φg φ6 := by
  have hG0 := hG
  obtain ⟨-, g0, g1', g2, g3, g4, g5, g6, g7, g8⟩ := hG
  have hLi := hB.1
  have hinj := hB.2.1
  have hbinj := hB.2.2.1
  have h8 := hI.nb8
  have hrg8 : ∀ b, b < nbW W o → rgW W o b ≤ 8 := fun b hb => hI.rg8 hb
  have c2 : inb (2 : Int32) 9 := by decide
  have d2 : ixn (2 : Int32) = 2 := by decide
  have c3 : inb (3 : Int32) 9 := by decide
  have d3 : ixn (3 : Int32) = 3 := by decide
  intro r
  induction r with
  | zero =>
    intro i f rest pw φ2 φg h1 g1 t l s hi hf h0 h00 hA hg hl
    obtain ⟨f, rfl⟩ : ∃ z, f = z + 1 := ⟨f - 1, by omega⟩
    refine ⟨φ2, φg, l, s, ?_, hA, hg, FR.refl _, FRG.refl _⟩
    unfold F_X1_meet_p25
    simp only [gR_PM, gK_PM, gI_PM, g3, lr_some g5, c_size, cl_some, hLi.2.1]
    rw [if_pos ((ofN_le (by omega) (by omega)).mpr (by omega))]
    rfl
  | succ r ih =>
    intro i f rest pw φ2 φg h1 g1 t l s hi hf h0 h00 hA hgg hl
    obtain ⟨f, rfl⟩ : ∃ z, f = z + 1 := ⟨f - 1, by omega⟩
    have hib : i < nbW W o := by omega
    have hr1 := hI.rg1 hib
    obtain ⟨kb, b0, b1, b2, b3, b5, b6, b4, hbr⟩ := hB.2.2.2 i hib
    obtain ⟨-, -, b9⟩ := hH.2 i hib
    have hw0 := hw i 0 hib (by omega)
    by_cases hz : rest.toInt ≤ 0
    · have hz0 : rest = 0 := i64_ext (by rw [z64]; omega)
      rw [hz0, metR_zero (fun b => (mayS_bt W o hr h 0 b).1) (fun b => lift_bt hI (wS W o h b 0))]
      refine ⟨φ2, φg, l, s, ?_, hA, hgg, FR.refl _, FRG.refl _⟩
      unfold F_X1_meet_p25
      simp only [gR_PM, gK_PM, gI_PM, g3, lr_some g5, c_size, cl_some, hLi.2.1]
      rw [if_neg (by rw [ofN_le (by omega) (by omega)]; omega), if_pos ((lg_cmp_le _ _).mpr (Int64.le_refl _))]
    · have hzn : ¬ lg_cmp rest 0 ≤ 0 := fun k => hz (by have := Int64.le_iff_toInt_le.mp ((lg_cmp_le _ _).mp k); rw [z64] at this; exact this)
      have hg := c_get (lisPM hLi x p φ2 φ3 φ4 φg t l s) (i := i) hib
      unfold metR
      by_cases c1 : gA W (o + 10) i = 0
      · simp only [if_pos c1]
        obtain ⟨φ5, φ6, l1, s1, q1, q2⟩ := ih (i + 1) f rest pw φ2 φg h1 g1 t l s (by omega) (by omega) h0 h00 hA hgg hl
        refine ⟨φ5, φ6, l1, s1, ?_, q2⟩
        rw [← q1]
        conv => lhs; unfold F_X1_meet_p25
        simp only [gR_PM, gK_PM, gI_PM, g3, lr_some g5, c_size, cl_some, hLi.2.1]
        rw [if_neg (by rw [ofN_le (by omega) (by omega)]; omega), if_neg hzn]
        simp only [hg, cl_some, gK_PM, gI_PM, lr_some kb, b9, if_pos c1]
        unfold F_X1_meet_p221
        simp only [bnd, ofN_succ]
      · simp only [if_neg c1]
        have hfz := c_isFrozen (M := PM M x p φ2 φ3 φ4 φg t l s) b5 (hbr 0 (by omega)).1
        rw [PM_503, hw0] at hfz
        by_cases c4 : wS W o h i 0 ≤ 0
        · simp only [if_pos c4]
          rw [if_pos c4] at hfz
          obtain ⟨φ5, φ6, l1, s1, q1, q2⟩ := ih (i + 1) f rest pw φ2 φg h1 g1 t l s (by omega) (by omega) h0 h00 hA hgg hl
          refine ⟨φ5, φ6, l1, s1, ?_, q2⟩
          rw [← q1]
          conv => lhs; unfold F_X1_meet_p25
          simp only [gR_PM, gK_PM, gI_PM, g3, lr_some g5, c_size, cl_some, hLi.2.1]
          rw [if_neg (by rw [ofN_le (by omega) (by omega)]; omega), if_neg hzn]
          simp only [hg, cl_some, gK_PM, gI_PM, lr_some kb, b9, if_neg c1, hfz, one_ne, if_false]
          unfold F_X1_meet_p221
          simp only [bnd, ofN_succ]
        · simp only [if_neg c4]
          rw [if_neg c4] at hfz
          obtain ⟨l2, s2, w1, w2⟩ := c_worth hC hI hR p (φ2 := φ2) (φ3 := φ3) (φ4 := φ4) (φg := φg) (t := t) (l := l) (s := s) (hN i hib) 0 b0 b3 b5 b6 (hbr 0 (by omega)).1 (hbr (rgW W o i - 1) (by omega)).1 (hw i 0 hib (by omega)) (hw i (rgW W o i - 1) hib (by omega)) (hl i hib)
          have hl2 : ∀ b, b < nbW W o → ∀ k, k < 5 → l2 k = nmS W o hr h b k := by
            intro b hb k hk
            rw [w2 k hk, ← hl i hib k hk, hl b hb k hk]
          have hlf := lift_bt hI (wS W o h i 0)
          have hne : ¬ lfS W o (wS W o h i 0) = 0 := i64_ne (by omega)
          obtain ⟨u1, u2, u3, u4, u5, u6⟩ := gvG_bt (gv := mayS W o hr h 0 i) (lf := lfS W o (wS W o h i 0)) (hb := h1 (8 * i)) h0 h00 (mayS_bt W o hr h 0 i).1 hlf.1 hlf.2
          have hcl := gvG_class (gv := mayS W o hr h 0 i) (lf := lfS W o (wS W o h i 0)) (hb := h1 (8 * i)) h0 h00
          have hA0 : φ2 (ra i 0) = h1 (8 * i) := hA i 0 hib (by omega)
          generalize gvG (mayS W o hr h 0 i) (lfS W o (wS W o h i 0)) (h1 (8 * i)) rest = v at u1 u2 u3 u4 u5 u6 hcl ⊢
          have hA1 := AG.ud hinj hrg8 hA hib (show 0 < rgW W o i by omega) (h1 (8 * i) - v)
          have hg1 := AGG.ud hbinj hgg hib (g1 i + v)
          obtain ⟨φ5, φ6, l1, s1, q1, q2, q3, q4, q5⟩ := ih (i + 1) f (rest - v * lfS W o (wS W o h i 0) / 100) (pw + (v * lfS W o (wS W o h i 0) / 100 - v)) _ _ _ _ (ad (ad t 2 v) 3 (v * lfS W o (wS W o h i 0) / 100)) l2 s2 (by omega) (by omega) (by omega) (by omega) hA1 hg1 hl2
          refine ⟨φ5, φ6, l1, s1, ?_, q2, q3, (FR.ud φ2 hib (show 0 < rgW W o i by omega) _).trans q4, (FRG.ud φg hib _).trans q5⟩
          refine Eq.trans ?_ q1
          conv => lhs; unfold F_X1_meet_p25
          simp only [gR_PM, gK_PM, gI_PM, g3, lr_some g5, c_size, cl_some, hLi.2.1]
          rw [if_neg (by rw [ofN_le (by omega) (by omega)]; omega), if_neg hzn]
          simp only [hg, cl_some, gK_PM, gI_PM, lr_some kb, b9, if_neg c1, hfz, if_true, gR_PM, g1', lr_some hC.k6, b5, lr_some (hbr 0 (by omega)).1, PM_503, hw0, mLiftPM hC hI hTa, c_cut hne, PM_502, hA0, bnd, g2, lr_some hC.k9, w1, hcl, sP502, PM_110, hgg i hib, sP110, g4, lr_some g6, gN_PM, g7, grd_pos c2, d2, grd_pos c3, d3, PM_t _ _ _ _ _ _ _ _ _ _ g8, sPt _ _ _ _ _ _ _ _ _ _ g8]
          unfold F_X1_meet_p221
          simp only [bnd, ofN_succ]
          rfl
theorem c_meet {x p o hr : Nat} {M W : Mem} (hC : CSh x M) (hG : GrS x p M) (hI : MI o W) {ba ua : Nat → Nat} {ra : Nat → Nat → Nat} (hT : ToR x M o W) (hTa : TaR x M o W) (hR : RuR x M o W ua) (hB : BoS p M o W ba ra) (hH : BoH p M o W ba) (hh : gI M 206 p = Int32.ofNat hr) (hhr : hr ≤ 20000) {h φ3 φ4 : Nat → Int64} (hN : ∀ b, b < nbW W o → NOk W o hr h b) (hw : AW W o ra φ3 h) (φ2 φg h1 g1 t l s : Nat → Int64) (hA : AG (nbW W o) (rgW W o) ra φ2 h1) (hgg : AGG (nbW W o) ba φg g1) (hl : ∀ b, b < nbW W o → ∀ k, k < 5 → l k = nmS W o hr h b k) :
    ∃ φ5 φ6 l1 s1, F_X1_meet (PM M x p φ2 φ3 φ4 φg t l s) p (needW W o hr) = some (PM M x p φ5 φ3 φ4 φ6 (costS W o hr (metR (mayS W o hr h 0) (fun b => lfS W o (wS W o h b 0)) (fun b => wS W o h b 0) (gA W (o + 10)) (nbW W o) 0 (needW W o hr) 0 h1 g1 t)) l1 s1, ()) ∧ AG (nbW W o) (rgW W o) ra φ5 (metR (mayS W o hr h 0) (fun b => lfS W o (wS W o h b 0)) (fun b => wS W o h b 0) (gA W (o + 10)) (nbW W o) 0 (needW W o hr) 0 h1 g1 t).2.2.1 ∧ AGG (nbW W o) ba φ6 (metR (mayS W o hr h 0) (fun b => lfS W o (wS W o h b 0)) (fun b => wS W o h b 0) (gA W (o + 10)) (nbW W o) 0 (needW W o hr) 0 h1 g1 t).2.2.2.1 ∧ FR (nbW W o) (rgW W o) ra φ2 φ5 ∧ FRG (nbW W o) ba φg φ6 := by
  have hG0 := hG
  obtain ⟨-, g0, g1', g2, g3, g4, g5, g6, g7, g8⟩ := hG
  have h8 := hI.nb8
  have c4 : inb (4 : Int32) 9 := by decide
  have d4 : ixn (4 : Int32) = 4 := by decide
  have c5 : inb (5 : Int32) 9 := by decide
  have d5 : ixn (5 : Int32) = 5 := by decide
  have c6 : inb (6 : Int32) 9 := by decide
  have d6 : ixn (6 : Int32) = 6 := by decide
  obtain ⟨n0, n1⟩ := need_bt hI hr
  obtain ⟨φ5, φ6, l1, s1, q1, q2⟩ := c_met_loop (φ4 := φ4) hC hG0 hI hTa hR hB hH hN hw F_X1_meet_p227 (nbW W o) 0 FU (needW W o hr) 0 φ2 φg h1 g1 t l s (by omega) (by unfold FU; omega) n0 n1 hA hgg hl
  refine ⟨φ5, φ6, l1, s1, ?_, q2⟩
  unfold F_X1_meet
  have e1 : ∀ d, F_X6_inForce (PM M x p φ2 φ3 φ4 φg t l s) (x + 9) 0 d = some (PM M x p φ2 φ3 φ4 φg t l s, (bestS (gA W (o + 24)) (gA W (o + 25)) 0 d (nrW W o)).map ua) := fun d => c_inForce (M := PM M x p φ2 φ3 φ4 φg t l s) hC hI hR 0 d
  simp only [gR_PM, gK_PM, gI_PM, g2, lr_some hC.k9, hh, d24 (show hr < 2147483648 by omega), e1, cl_some]
  refine Eq.trans q1 ?_
  have e2 : ∀ φ2 φg t l s, F_X11_inRound (PM M x p φ2 φ3 φ4 φg t l s) (x + 4) (Int32.ofNat hr) = some (PM M x p φ2 φ3 φ4 φg t l s, gA M (x + 4) (hr % 24)) := fun φ2 φg t l s => c_inRound (M := PM M x p φ2 φ3 φ4 φg t l s) hC.n4 (by omega) (by omega) (by omega)
  unfold F_X1_meet_p227
  simp only [gR_PM, gK_PM, gN_PM, gI_PM, hh, g0, lr_some hC.k1, hC.r1102, lr_some hC.k4, e2, hT.2.1 _ (show hr % 24 < 24 by omega), cl_some, g4, lr_some g6, g7, grd_pos c4, d4, grd_pos c5, d5, grd_pos c6, d6, PM_t _ _ _ _ _ _ _ _ _ _ g8, sPt _ _ _ _ _ _ _ _ _ _ g8, bnd]
  rfl
