theorem z64 : (0 : Int64).toInt = 0 := by decide
theorem mayS_bt (M : Mem) (o hr : Nat) (h : Nat → Int64) (p : Int32) (b : Nat) : 0 ≤ (mayS M o hr h p b).toInt ∧ (mayS M o hr h p b).toInt ≤ 99999 := by
  unfold mayS
  cases bestS (gA M (o + 24)) (gA M (o + 25)) p (Int32.ofNat (hr / 24)) (nrW M o) with
  | none =>
    show 0 ≤ (0 : Int64).toInt ∧ (0 : Int64).toInt ≤ 99999
    decide
  | some r =>
    dsimp only
    unfold cutS
    generalize wkS (gA M (o + 27)) (fun k => clampS (nmS M o hr h b k)) r (szW M o r) = v
    have e1 : (99999 : Int64).toInt = 99999 := by decide
    by_cases h1 : v < 0
    · rw [if_pos h1, z64]
      omega
    · rw [if_neg h1]
      have h1 : ¬ v.toInt < 0 := fun k => h1 (Int64.lt_iff_toInt_lt.mpr (by rw [z64]; exact k))
      by_cases h2 : 99999 < v
      · rw [if_pos h2, e1]
        omega
      · rw [if_neg h2]
        have h2 : ¬ 99999 < v.toInt := fun k => h2 (Int64.lt_iff_toInt_lt.mpr (by rw [e1]; exact k))
        omega
theorem sunR_zero {tk : Nat → Int64} {op : Nat → Int32} (htk : ∀ b, 0 ≤ (tk b).toInt) : ∀ (r b : Nat) (h t : Nat → Int64), sunR tk op r b 0 h t = (0, h, t) := by
  intro r
  induction r with
  | zero => intro b h t; rfl
  | succ r ih =>
    intro b h t
    unfold sunR
    have e : (0 : Int64) ≤ tk b := Int64.le_iff_toInt_le.mpr (by rw [z64]; exact htk b)
    rw [if_pos e, ad_zero, ad_zero, Int64.sub_self, ih]
    by_cases c : op b = 0
    · rw [if_pos c]
    · rw [if_neg c]
theorem sunR_app (tk : Nat → Int64) (op : Nat → Int32) (L : List (Nat × Int64)) : ∀ (r b : Nat) (l : Int64) (h t : Nat → Int64), sunR tk op r b l h (app t L) = ((sunR tk op r b l h t).1, (sunR tk op r b l h t).2.1, app (sunR tk op r b l h t).2.2 L) := by
  intro r
  induction r with
  | zero => intro b l h t; rfl
  | succ r ih =>
    intro b l h t
    unfold sunR
    by_cases c : op b = 0
    · simp only [if_pos c]
      exact ih _ _ _ _
    · simp only [if_neg c]
      by_cases c2 : l ≤ tk b
      · simp only [if_pos c2, ← app_ad]
        exact ih _ _ _ _
      · simp only [if_neg c2, ← app_ad]
        exact ih _ _ _ _
theorem c_sun_loop {x p o hr : Nat} {M W : Mem} (hC : CSh x M) (hG : GrS x p M) (hI : MI o W) {ba ua : Nat → Nat} {ra : Nat → Nat → Nat} (hR : RuR x M o W ua) (hB : BoS p M o W ba ra) (hH : BoH p M o W ba) {h φ3 φ4 φg : Nat → Int64} (hN : ∀ b, b < nbW W o → NOk W o hr h b) (hw : AW W o ra φ3 h) (kk : Mem → Nat → Int64 → Option (Mem × Unit)) : ∀ (r i f : Nat) (rest : Int64) (φ2 h1 t l s : Nat → Int64), i + r = nbW W o → r < f → 0 ≤ rest.toInt → AG (nbW W o) (rgW W o) ra φ2 h1 → (∀ b, b < nbW W o → ∀ k, k < 5 → l k = nmS W o hr h b k) →
    ∃ φ5 l1 s1, F_X1_takeSun_p35 kk f (PM M x p φ2 φ3 φ4 φg t l s) p ((bestS (gA W (o + 24)) (gA W (o + 25)) 1 (Int32.ofNat (hr / 24)) (nrW W o)).map ua) rest (Int32.ofNat i) = kk (PM M x p φ5 φ3 φ4 φg (sunR (mayS W o hr h 1) (gA W (o + 10)) r i rest h1 t).2.2 l1 s1) p (sunR (mayS W o hr h 1) (gA W (o + 10)) r i rest h1 t).1 ∧ AG (nbW W o) (rgW W o) ra φ5 (sunR (mayS W o hr h 1) (gA W (o + 10)) r i rest h1 t).2.1 ∧ FR (nbW W o) (rgW W o) ra φ2 φ5 ∧ (∀ b, b < nbW W o → ∀ k, k < 5 → l1 k = nmS W o hr h b k) := by
  have hG0 := hG
  obtain ⟨-, g0, g1, g2, g3, g4, g5, g6, g7, g8⟩ := hG
  have hLi := hB.1
  have hinj := hB.2.1
  have h8 := hI.nb8
  have hrg8 : ∀ b, b < nbW W o → rgW W o b ≤ 8 := fun b hb => hI.rg8 hb
  have c0 : inb (0 : Int32) 9 := by decide
  have d0 : ixn (0 : Int32) = 0 := by decide
  intro r
  induction r with
  | zero =>
    intro i f rest φ2 h1 t l s hi hf h0 hA hl
    obtain ⟨f, rfl⟩ : ∃ z, f = z + 1 := ⟨f - 1, by omega⟩
    refine ⟨φ2, l, s, ?_, hA, FR.refl _, hl⟩
    unfold F_X1_takeSun_p35
    simp only [gR_PM, gK_PM, gI_PM, g3, lr_some g5, c_size, cl_some, hLi.2.1]
    rw [if_pos ((ofN_le (by omega) (by omega)).mpr (by omega))]
    rfl
  | succ r ih =>
    intro i f rest φ2 h1 t l s hi hf h0 hA hl
    obtain ⟨f, rfl⟩ : ∃ z, f = z + 1 := ⟨f - 1, by omega⟩
    have hib : i < nbW W o := by omega
    have hr1 := hI.rg1 hib
    obtain ⟨kb, b0, b1, b2, b3, b5, b6, b4, hbr⟩ := hB.2.2.2 i hib
    obtain ⟨-, -, b9⟩ := hH.2 i hib
    by_cases hz : rest.toInt ≤ 0
    · have hz0 : rest = 0 := i64_ext (by rw [z64]; omega)
      refine ⟨φ2, l, s, ?_, ?_, FR.refl _, hl⟩
      · rw [hz0, sunR_zero (fun b => (mayS_bt W o hr h 1 b).1)]
        unfold F_X1_takeSun_p35
        simp only [gR_PM, gK_PM, gI_PM, g3, lr_some g5, c_size, cl_some, hLi.2.1]
        rw [if_neg (by rw [ofN_le (by omega) (by omega)]; omega), if_pos ((lg_cmp_le _ _).mpr (Int64.le_refl _))]
      · rw [hz0, sunR_zero (fun b => (mayS_bt W o hr h 1 b).1)]
        exact hA
    · have hzn : ¬ lg_cmp rest 0 ≤ 0 := fun k => hz (by have := Int64.le_iff_toInt_le.mp ((lg_cmp_le _ _).mp k); rw [z64] at this; exact this)
      have hg := c_get (lisPM hLi x p φ2 φ3 φ4 φg t l s) (i := i) hib
      unfold sunR
      by_cases c1 : gA W (o + 10) i = 0
      · simp only [if_pos c1]
        obtain ⟨φ5, l1, s1, q1, q2, q3, q4⟩ := ih (i + 1) f rest φ2 h1 t l s (by omega) (by omega) h0 hA hl
        refine ⟨φ5, l1, s1, ?_, q2, q3, q4⟩
        rw [← q1]
        conv => lhs; unfold F_X1_takeSun_p35
        simp only [gR_PM, gK_PM, gI_PM, g3, lr_some g5, c_size, cl_some, hLi.2.1]
        rw [if_neg (by rw [ofN_le (by omega) (by omega)]; omega), if_neg hzn]
        simp only [hg, cl_some, gK_PM, gI_PM, lr_some kb, b9, if_pos c1]
        unfold F_X1_takeSun_p122
        simp only [bnd, ofN_succ]
      · simp only [if_neg c1]
        obtain ⟨l2, s2, w1, w2⟩ := c_worth hC hI hR p (φ2 := φ2) (φ3 := φ3) (φ4 := φ4) (φg := φg) (t := t) (l := l) (s := s) (hN i hib) 1 b0 b3 b5 b6 (hbr 0 (by omega)).1 (hbr (rgW W o i - 1) (by omega)).1 (hw i 0 hib (by omega)) (hw i (rgW W o i - 1) hib (by omega)) (hl i hib)
        have hl2 : ∀ b, b < nbW W o → ∀ k, k < 5 → l2 k = nmS W o hr h b k := by
          intro b hb k hk
          rw [w2 k hk, ← hl i hib k hk, hl b hb k hk]
        have hm := (mayS_bt W o hr h 1 i).1
        -- what is taken
        have hstep : ∀ tk : Int64, (if mayS W o hr h 1 i < rest then mayS W o hr h 1 i else rest) = tk → 0 ≤ (rest - tk).toInt → ∃ φ5 l1 s1, F_X1_takeSun_p35 kk (f + 1) (PM M x p φ2 φ3 φ4 φg t l s) p ((bestS (gA W (o + 24)) (gA W (o + 25)) 1 (Int32.ofNat (hr / 24)) (nrW W o)).map ua) rest (Int32.ofNat i) = kk (PM M x p φ5 φ3 φ4 φg (sunR (mayS W o hr h 1) (gA W (o + 10)) r (i + 1) (rest - tk) (ad h1 (8 * i) tk) (ad t 0 tk)).2.2 l1 s1) p (sunR (mayS W o hr h 1) (gA W (o + 10)) r (i + 1) (rest - tk) (ad h1 (8 * i) tk) (ad t 0 tk)).1 ∧ AG (nbW W o) (rgW W o) ra φ5 (sunR (mayS W o hr h 1) (gA W (o + 10)) r (i + 1) (rest - tk) (ad h1 (8 * i) tk) (ad t 0 tk)).2.1 ∧ FR (nbW W o) (rgW W o) ra φ2 φ5 ∧ (∀ b, b < nbW W o → ∀ k, k < 5 → l1 k = nmS W o hr h b k) := by
          intro tk htk htk0
          have hA1 := AG.ud hinj hrg8 hA hib (show 0 < rgW W o i by omega) (φ2 (ra i 0) + tk)
          rw [hA i 0 hib (by omega)] at hA1
          obtain ⟨φ5, l1, s1, q1, q2, q3, q4⟩ := ih (i + 1) f (rest - tk) _ _ (ad t 0 tk) l2 s2 (by omega) (by omega) htk0 hA1 hl2
          refine ⟨φ5, l1, s1, ?_, q2, (FR.ud φ2 hib (show 0 < rgW W o i by omega) _).trans q3, q4⟩
          refine Eq.trans ?_ q1
          conv => lhs; unfold F_X1_takeSun_p35
          simp only [gR_PM, gK_PM, gI_PM, g3, lr_some g5, c_size, cl_some, hLi.2.1]
          rw [if_neg (by rw [ofN_le (by omega) (by omega)]; omega), if_neg hzn]
          simp only [hg, cl_some, gK_PM, gI_PM, lr_some kb, b9, if_neg c1, gR_PM, g2, lr_some hC.k9, w1, htk, bnd, b5, lr_some (hbr 0 (by omega)).1, PM_502, sP502, hA i 0 hib (show 0 < rgW W o i by omega), g4, lr_some g6, gN_PM, g7, grd_pos c0, d0, PM_t _ _ _ _ _ _ _ _ _ _ g8, sPt _ _ _ _ _ _ _ _ _ _ g8]
          unfold F_X1_takeSun_p122
          simp only [bnd, ofN_succ]
          rfl
        by_cases c2 : rest ≤ mayS W o hr h 1 i
        · simp only [if_pos c2]
          exact hstep rest (if_neg (Int64.not_lt.mpr c2)) (by rw [Int64.sub_self, z64]; omega)
        · simp only [if_neg c2]
          have c3 := Int64.not_le.mp c2
          refine hstep _ (if_pos c3) ?_
          have c4 := Int64.lt_iff_toInt_lt.mp c3
          have := i64_rng rest
          rw [i64_sub (by omega) (by omega)]
          omega
theorem c_takeSun {x p o hr : Nat} {M W : Mem} (hC : CSh x M) (hG : GrS x p M) (hI : MI o W) {ba ua : Nat → Nat} {ra : Nat → Nat → Nat} (hT : ToR x M o W) (hR : RuR x M o W ua) (hB : BoS p M o W ba ra) (hH : BoH p M o W ba) (hh : gI M 206 p = Int32.ofNat hr) (hhr : hr ≤ 20000) {h φ3 φ4 φg : Nat → Int64} (hN : ∀ b, b < nbW W o → NOk W o hr h b) (hw : AW W o ra φ3 h) (φ2 h1 t l s : Nat → Int64) (hA : AG (nbW W o) (rgW W o) ra φ2 h1) (hl : ∀ b, b < nbW W o → ∀ k, k < 5 → l k = nmS W o hr h b k) :
    ∃ φ5 l1 s1, F_X1_takeSun (PM M x p φ2 φ3 φ4 φg t l s) p = some (PM M x p φ5 φ3 φ4 φg (ad (sunR (mayS W o hr h 1) (gA W (o + 10)) (nbW W o) 0 (gA W (o + 22) (hr % 24)).toInt64 h1 t).2.2 1 (sunR (mayS W o hr h 1) (gA W (o + 10)) (nbW W o) 0 (gA W (o + 22) (hr % 24)).toInt64 h1 t).1) l1 s1, ()) ∧ AG (nbW W o) (rgW W o) ra φ5 (sunR (mayS W o hr h 1) (gA W (o + 10)) (nbW W o) 0 (gA W (o + 22) (hr % 24)).toInt64 h1 t).2.1 ∧ FR (nbW W o) (rgW W o) ra φ2 φ5 ∧ (∀ b, b < nbW W o → ∀ k, k < 5 → l1 k = nmS W o hr h b k) := by
  have hG0 := hG
  obtain ⟨-, g0, g1, g2, g3, g4, g5, g6, g7, g8⟩ := hG
  have h8 := hI.nb8
  have c1 : inb (1 : Int32) 9 := by decide
  have d1 : ixn (1 : Int32) = 1 := by decide
  have hs := (hI.pr (show hr % 24 < 24 by omega)).2
  have hs0 := hs.1
  obtain ⟨φ5, l1, s1, q1, q2, q3, q4⟩ := c_sun_loop (φ4 := φ4) (φg := φg) hC hG0 hI hR hB hH hN hw F_X1_takeSun_p128 (nbW W o) 0 FU (gA W (o + 22) (hr % 24)).toInt64 φ2 h1 t l s (by omega) (by unfold FU; omega) (by rw [Int32.toInt_toInt64]; exact hs0) hA hl
  refine ⟨φ5, l1, s1, ?_, q2, q3, q4⟩
  unfold F_X1_takeSun
  have e1 : ∀ d, F_X6_inForce (PM M x p φ2 φ3 φ4 φg t l s) (x + 9) 1 d = some (PM M x p φ2 φ3 φ4 φg t l s, (bestS (gA W (o + 24)) (gA W (o + 25)) 1 d (nrW W o)).map ua) := fun d => c_inForce (M := PM M x p φ2 φ3 φ4 φg t l s) hC hI hR 1 d
  have e2 : F_X11_inRound (PM M x p φ2 φ3 φ4 φg t l s) (x + 5) (Int32.ofNat hr) = some (PM M x p φ2 φ3 φ4 φg t l s, gA M (x + 5) (hr % 24)) := c_inRound (M := PM M x p φ2 φ3 φ4 φg t l s) hC.n5 (by omega) (by omega) (by omega)
  simp only [gR_PM, gK_PM, gI_PM, g2, lr_some hC.k9, hh, d24 (show hr < 2147483648 by omega), e1, cl_some, g0, lr_some hC.k1, hC.r1103, lr_some hC.k5, e2, hT.2.2 _ (show hr % 24 < 24 by omega), bnd]
  refine Eq.trans q1 ?_
  unfold F_X1_takeSun_p128
  simp only [gR_PM, gK_PM, gN_PM, g4, lr_some g6, g7, grd_pos c1, d1, PM_t _ _ _ _ _ _ _ _ _ _ g8, sPt _ _ _ _ _ _ _ _ _ _ g8, bnd]
  rfl
