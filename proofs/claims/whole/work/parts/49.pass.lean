/-- bores below i, and of bore i the rings below j, are settled to heat H -/
def STL (W : Mem) (o : Nat) (ra : Nat → Nat → Nat) (H : Nat → Int64) (i j : Nat) (φ2 φ3 φ4 : Nat → Int64) : Prop :=
  ∀ b k, b < nbW W o → k < rgW W o b → ((b < i ∨ (b = i ∧ k < j)) → φ2 (ra b k) = H (8 * b + k) ∧ φ3 (ra b k) = wS W o H b k ∧ φ4 (ra b k) = 0) ∧ (¬ (b < i ∨ (b = i ∧ k < j)) → φ2 (ra b k) + φ4 (ra b k) = H (8 * b + k))
theorem c_ringSettle {x p o : Nat} {M W : Mem} (hI : MI o W) {ba : Nat → Nat} {ra : Nat → Nat → Nat} (hB : BoS p M o W ba ra) {b k : Nat} (hb : b < nbW W o) (hk : k < rgW W o b) (φ2 φ3 φ4 φg t l s : Nat → Int64) {v : Int64} (hv : φ2 (ra b k) + φ4 (ra b k) = v) :
    F_X4_settle (PM M x p φ2 φ3 φ4 φg t l s) (ra b k) = some (PM M x p (ud φ2 (ra b k) v) (ud φ3 (ra b k) (v / (holdS (gA W (o + 5)) (gA W (o + 6)) b k).toInt64)) (ud φ4 (ra b k) 0) φg t l s, ()) := by
  obtain ⟨-, -, -, hbo⟩ := hB
  obtain ⟨-, -, -, -, -, -, -, -, hr⟩ := hbo b hb
  have hr8 := hI.rg8 hb
  obtain ⟨r1, r2, r3⟩ := hr k hk
  have hne := hI.hold hb (show k < 8 by omega)
  unfold F_X4_settle
  simp only [bnd, PM_502, PM_504, hv, sP502, sP504, PM_500, r2, ud_s, c_cut hne, cl_some, sP503]
theorem c_settle_loop {x p o : Nat} {M W : Mem} (hI : MI o W) {ba : Nat → Nat} {ra : Nat → Nat → Nat} (hB : BoS p M o W ba ra) {H φg t l s : Nat → Int64} {b : Nat} (hb : b < nbW W o) : ∀ (r k f : Nat) (φ2 φ3 φ4 : Nat → Int64), k + r = rgW W o b → r < f → STL W o ra H b k φ2 φ3 φ4 →
    ∃ φ5 φ6 φ7, F_X0_settle_p2 F_X0_settle_p33 f (PM M x p φ2 φ3 φ4 φg t l s) (ba b) (Int32.ofNat k) = some (PM M x p φ5 φ6 φ7 φg t l s, ()) ∧ STL W o ra H b (rgW W o b) φ5 φ6 φ7 ∧ FR (nbW W o) (rgW W o) ra φ2 φ5 ∧ FR (nbW W o) (rgW W o) ra φ3 φ6 ∧ FR (nbW W o) (rgW W o) ra φ4 φ7 := by
  have hB0 := hB
  obtain ⟨-, hinj, -, hbo⟩ := hB
  obtain ⟨-, e0, e1, e2, e3, e5, e6, ⟨la, e4, hla⟩, hr⟩ := hbo b hb
  have hr8 := hI.rg8 hb
  intro r
  induction r with
  | zero =>
    intro k f φ2 φ3 φ4 hk hf hS
    obtain ⟨f, rfl⟩ : ∃ z, f = z + 1 := ⟨f - 1, by omega⟩
    have : k = rgW W o b := by omega
    subst this
    refine ⟨φ2, φ3, φ4, ?_, hS, FR.refl _, FR.refl _, FR.refl _⟩
    unfold F_X0_settle_p2 F_X0_settle_p33
    simp only [gR_PM, gK_PM, gI_PM, e4, lr_some hla.1, c_size, cl_some, hla.2.1]
    rw [if_pos ((ofN_le (by omega) (by omega)).mpr (by omega))]
  | succ r ih =>
    intro k f φ2 φ3 φ4 hk hf hS
    obtain ⟨f, rfl⟩ : ∃ z, f = z + 1 := ⟨f - 1, by omega⟩
    have hkr : k < rgW W o b := by omega
    have hg := c_get (lisPM hla x p φ2 φ3 φ4 φg t l s) (i := k) hkr
    have hv := (hS b k hb hkr).2 (by omega)
    have hs := c_ringSettle (x := x) hI hB0 hb hkr φ2 φ3 φ4 φg t l s hv
    have hS1 : STL W o ra H b (k + 1) (ud φ2 (ra b k) (H (8 * b + k))) (ud φ3 (ra b k) (H (8 * b + k) / (holdS (gA W (o + 5)) (gA W (o + 6)) b k).toInt64)) (ud φ4 (ra b k) 0) := by
      intro b' k' hb' hk'
      obtain ⟨s1, s2⟩ := hS b' k' hb' hk'
      by_cases e : b' = b ∧ k' = k
      · obtain ⟨rfl, rfl⟩ := e
        refine ⟨fun _ => ?_, fun z => absurd (Or.inr ⟨rfl, by omega⟩) z⟩
        rw [ud_s, ud_s, ud_s]
        exact ⟨rfl, rfl, rfl⟩
      · have hne : ¬ ra b' k' = ra b k := fun z => e (hinj _ _ _ _ hb' hk' hb hkr z)
        rw [ud_n _ hne, ud_n _ hne, ud_n _ hne]
        refine ⟨fun z => s1 (by omega), fun z => s2 (by omega)⟩
    obtain ⟨φ5, φ6, φ7, q1, q2, q3, q4, q5⟩ := ih (k + 1) f _ _ _ (by omega) (by omega) hS1
    refine ⟨φ5, φ6, φ7, ?_, q2, (FR.ud φ2 hb hkr _).trans q3, (FR.ud φ3 hb hkr _).trans q4, (FR.ud φ4 hb hkr _).trans q5⟩
    rw [← q1]
    conv => lhs; unfold F_X0_settle_p2
    simp only [gR_PM, gK_PM, gI_PM, e4, lr_some hla.1, c_size, cl_some, hla.2.1]
    rw [if_neg (by rw [ofN_le (by omega) (by omega)]; omega)]
    simp only [hg, cl_some, gK_PM, lr_some (hr k hkr).1, hs, bnd, ofN_succ]
theorem c_settles_loop {x p o : Nat} {M W : Mem} (hG : GrS x p M) (hI : MI o W) {ba : Nat → Nat} {ra : Nat → Nat → Nat} (hB : BoS p M o W ba ra) {H φg t l s : Nat → Int64} (kk : Mem → Nat → Option (Mem × Unit)) : ∀ (r i f : Nat) (φ2 φ3 φ4 : Nat → Int64), i + r = nbW W o → r < f → STL W o ra H i 0 φ2 φ3 φ4 →
    ∃ φ5 φ6 φ7, F_X1_pass_p43 kk f (PM M x p φ2 φ3 φ4 φg t l s) p (Int32.ofNat i) = kk (PM M x p φ5 φ6 φ7 φg t l s) p ∧ STL W o ra H (nbW W o) 0 φ5 φ6 φ7 ∧ FR (nbW W o) (rgW W o) ra φ2 φ5 ∧ FR (nbW W o) (rgW W o) ra φ3 φ6 ∧ FR (nbW W o) (rgW W o) ra φ4 φ7 := by
  obtain ⟨-, g0, g1, g2, g3, g4, g5, g6, g7, g8⟩ := hG
  have hLi := hB.1
  have h8 := hI.nb8
  intro r
  induction r with
  | zero =>
    intro i f φ2 φ3 φ4 hi hf hS
    obtain ⟨f, rfl⟩ : ∃ z, f = z + 1 := ⟨f - 1, by omega⟩
    have : i = nbW W o := by omega
    subst this
    refine ⟨φ2, φ3, φ4, ?_, hS, FR.refl _, FR.refl _, FR.refl _⟩
    unfold F_X1_pass_p43
    simp only [gR_PM, gK_PM, gI_PM, g3, lr_some g5, c_size, cl_some, hLi.2.1]
    rw [if_pos ((ofN_le (by omega) (by omega)).mpr (by omega))]
  | succ r ih =>
    intro i f φ2 φ3 φ4 hi hf hS
    obtain ⟨f, rfl⟩ : ∃ z, f = z + 1 := ⟨f - 1, by omega⟩
    have hib : i < nbW W o := by omega
    have hr8 := hI.rg8 hib
    have hg := c_get (lisPM hLi x p φ2 φ3 φ4 φg t l s) (i := i) hib
    obtain ⟨φ5, φ6, φ7, q1, q2, q3, q4, q5⟩ := c_settle_loop (x := x) (φg := φg) (t := t) (l := l) (s := s) hI hB hib (rgW W o i) 0 FU φ2 φ3 φ4 (by omega) (by unfold FU; omega) hS
    have hS1 : STL W o ra H (i + 1) 0 φ5 φ6 φ7 := by
      intro b' k' hb' hk'
      obtain ⟨s1, s2⟩ := q2 b' k' hb' hk'
      refine ⟨fun z => s1 ?_, fun z => s2 ?_⟩
      · by_cases e : b' = i
        · subst e
          exact Or.inr ⟨rfl, hk'⟩
        · omega
      · omega
    obtain ⟨φ8, φ9, φa, p1, p2, p3, p4, p5⟩ := ih (i + 1) f _ _ _ (by omega) (by omega) hS1
    refine ⟨φ8, φ9, φa, ?_, p2, q3.trans p3, q4.trans p4, q5.trans p5⟩
    rw [← p1]
    have q1 : F_X0_settle (PM M x p φ2 φ3 φ4 φg t l s) (ba i) = _ := q1
    conv => lhs; unfold F_X1_pass_p43
    simp only [gR_PM, gK_PM, gI_PM, g3, lr_some g5, c_size, cl_some, hLi.2.1]
    rw [if_neg (by rw [ofN_le (by omega) (by omega)]; omega)]
    simp only [hg, cl_some, gK_PM, lr_some (hB.2.2.2 i hib).1, q1, bnd, ofN_succ]
theorem c_tellHour {x p o hr : Nat} {M W : Mem} (hC : CSh x M) (hT : ToR x M o W) (hhr : hr ≤ 20000) (φ2 φ3 φ4 φg t l s h : Nat → Int64) : ∃ l1, F_X6_tellHour (PM M x p φ2 φ3 φ4 φg t l s) (x + 9) (x + 1) (Int32.ofNat hr) (needW W o hr) = some (PM M x p φ2 φ3 φ4 φg t l1 s, ()) ∧ ∀ b k, k < 5 → l1 k = nmS W o hr h b k := by
  have c0 : inb (0 : Int32) 9 := by decide
  have c1 : inb (1 : Int32) 9 := by decide
  have c2 : inb (2 : Int32) 9 := by decide
  have c3 : inb (3 : Int32) 9 := by decide
  have c4 : inb (4 : Int32) 9 := by decide
  have d0 : ixn (0 : Int32) = 0 := by decide
  have d1 : ixn (1 : Int32) = 1 := by decide
  have d2 : ixn (2 : Int32) = 2 := by decide
  have d3 : ixn (3 : Int32) = 3 := by decide
  have d4 : ixn (4 : Int32) = 4 := by decide
  have e2 : ∀ l, F_X11_inRound (PM M x p φ2 φ3 φ4 φg t l s) (x + 4) (Int32.ofNat hr) = some (PM M x p φ2 φ3 φ4 φg t l s, gA M (x + 4) (hr % 24)) := fun l => c_inRound (M := PM M x p φ2 φ3 φ4 φg t l s) hC.n4 (by omega) (by omega) (by omega)
  have e3 : ∀ l, F_X11_inRound (PM M x p φ2 φ3 φ4 φg t l s) (x + 3) (Int32.ofNat (hr / 24)) = some (PM M x p φ2 φ3 φ4 φg t l s, gA M (x + 3) (hr / 24 % 12)) := fun l => c_inRound (M := PM M x p φ2 φ3 φ4 φg t l s) hC.n3 (by omega) (by omega) (by omega)
  have e24 : Int32.ofNat hr - Int32.ofNat (hr / 24) * (24 : Int32) = Int32.ofNat (hr % 24) := by
    rw [← d24 (show hr < 2147483648 by omega)]
    exact m24 (by omega)
  refine ⟨ud (ud (ud (ud (ud l 0 (Int32.ofNat (hr % 24)).toInt64) 1 (Int32.ofNat (hr / 24)).toInt64) 2 (gA W (o + 21) (hr % 24)).toInt64) 3 (gA W (o + 18) (hr / 24 % 12)).toInt64) 4 (needW W o hr), ?_, ?_⟩
  · unfold F_X6_tellHour
    simp only [gR_PM, gK_PM, gN_PM, hC.r701, lr_some hC.k11, hC.n11, grd_pos c0, grd_pos c1, grd_pos c2, grd_pos c3, grd_pos c4, d0, d1, d2, d3, d4, d24 (show hr < 2147483648 by omega), e24, bnd, sPl, hC.r1102, lr_some hC.k4, e2, cl_some, hC.r1101, lr_some hC.k3, e3, hT.1 _ (show hr / 24 % 12 < 12 by omega), hT.2.1 _ (show hr % 24 < 24 by omega)]
  · intro b k hk
    rcases (show k = 0 ∨ k = 1 ∨ k = 2 ∨ k = 3 ∨ k = 4 by omega) with rfl | rfl | rfl | rfl | rfl
    · rw [nmS_0, ud_n _ (by omega), ud_n _ (by omega), ud_n _ (by omega), ud_n _ (by omega), ud_s]
    · rw [nmS_1, ud_n _ (by omega), ud_n _ (by omega), ud_n _ (by omega), ud_s]
    · rw [nmS_2, ud_n _ (by omega), ud_n _ (by omega), ud_s]
    · rw [nmS_3, ud_n _ (by omega), ud_s]
    · rw [nmS_4, ud_s, needW]
theorem costS_app (M : Mem) (o hr : Nat) (x : Int64 × Int64 × (Nat → Int64) × (Nat → Int64) × (Nat → Int64)) (L : List (Nat × Int64)) : costS M o hr (x.1, x.2.1, x.2.2.1, x.2.2.2.1, app x.2.2.2.2 L) = app (costS M o hr x) L := by
  unfold costS
  dsimp only
  rw [app_ad, app_ad, app_ad]
theorem c_pass {x p o hr : Nat} {M W : Mem} (hC : CSh x M) (hG : GrS x p M) (hI : MI o W) {ha ba ua : Nat → Nat} {ra : Nat → Nat → Nat} (hHo : HoR x M o W ha) (hT : ToR x M o W) (hTa : TaR x M o W) (hR : RuR x M o W ua) (hB : BoS p M o W ba ra) (hH : BoH p M o W ba) (hh : gI M 206 p = Int32.ofNat hr) (hhr : hr ≤ 20000) {h g t φ2 φ3 φ4 φg l s : Nat → Int64} (hN : ∀ b, b < nbW W o → NOk W o hr h b) (h2 : AG (nbW W o) (rgW W o) ra φ2 h) (hw : AW W o ra φ3 h) (h4 : AG (nbW W o) (rgW W o) ra φ4 (fun _ => 0)) (hgg : AGG (nbW W o) ba φg g) :
    ∃ φ5 φ6 φ7 φ8 l1 s1, F_X1_pass (PM M x p φ2 φ3 φ4 φg t l s) p = some (sI (PM M x p φ5 φ6 φ7 φ8 (hourS W o hr h g t).2.2 l1 s1) 206 p (Int32.ofNat (hr + 1)), ()) ∧ AG (nbW W o) (rgW W o) ra φ5 (hourS W o hr h g t).1 ∧ AW W o ra φ6 (hourS W o hr h g t).1 ∧ AG (nbW W o) (rgW W o) ra φ7 (fun _ => 0) ∧ AGG (nbW W o) ba φ8 (hourS W o hr h g t).2.1 ∧ FR (nbW W o) (rgW W o) ra φ2 φ5 ∧ FR (nbW W o) (rgW W o) ra φ3 φ6 ∧ FR (nbW W o) (rgW W o) ra φ4 φ7 ∧ FRG (nbW W o) ba φg φ8 := by
  have hG0 := hG
  obtain ⟨-, g0, g1, g2, g3, g4, g5, g6, g7, g8⟩ := hG
  have h8 := hI.nb8
  have e1 : F_X10_needOf (PM M x p φ2 φ3 φ4 φg t l s) (x + 1) (Int32.ofNat hr) = some (PM M x p φ2 φ3 φ4 φg t l s, needW W o hr) := c_needOf (M := PM M x p φ2 φ3 φ4 φg t l s) hC hI hHo hT (by omega)
  obtain ⟨l1, e2, hl1⟩ := c_tellHour (p := p) hC hT hhr φ2 φ3 φ4 φg t l s h
  obtain ⟨φ5, e3, h5, f5⟩ := c_layFlows (x := x) (φg := φg) (l := l1) (s := s) hG0 hI hB hH h2 hw φ4 t h4
  obtain ⟨φ6, l2, s2, e4, h6, f6, hl2⟩ := c_takeSun (φ4 := φ5) (φg := φg) hC hG0 hI hT hR hB hH hh hhr hN hw φ2 h (app t (grdT W o h)) l1 s h2 (fun b _ k hk => hl1 b k hk)
  rw [sunR_app] at h6
  rw [sunR_app, ← app_ad] at e4
  dsimp only at e4 h6
  obtain ⟨φ7, φ8, l3, s3, e5, h7, h8', f7, f8⟩ := c_meet (φ4 := φ5) hC hG0 hI hT hTa hR hB hH hh hhr hN hw φ6 φg (sunR (mayS W o hr h 1) (gA W (o + 10)) (nbW W o) 0 (gA W (o + 22) (hr % 24)).toInt64 h t).2.1 g (app (ad (sunR (mayS W o hr h 1) (gA W (o + 10)) (nbW W o) 0 (gA W (o + 22) (hr % 24)).toInt64 h t).2.2 1 (sunR (mayS W o hr h 1) (gA W (o + 10)) (nbW W o) 0 (gA W (o + 22) (hr % 24)).toInt64 h t).1) (grdT W o h)) l2 s2 h6 hgg hl2
  rw [metR_app] at e5 h7 h8'
  dsimp only at h7 h8'
  rw [costS_app] at e5
  have hS : STL W o ra (hourS W o hr h g t).1 0 0 φ7 φ3 φ5 := by
    intro b k hb hk
    refine ⟨fun z => by omega, fun _ => ?_⟩
    rw [h7 b k hb hk, h5 b k hb hk]
    show _ = app _ _ _
    rw [app_dl, app_dl]
    show _ + ((0 : Int64) + _) = _
    rw [Int64.zero_add]
    rfl
  obtain ⟨ψ2, ψ3, ψ4, e6, hS2, k2, k3, k4⟩ := c_settles_loop (x := x) (φg := φ8) (t := (hourS W o hr h g t).2.2) (l := l3) (s := s3) hG0 hI hB F_X1_pass_p74 (nbW W o) 0 FU φ7 φ3 φ5 (by omega) (by unfold FU; omega) hS
  refine ⟨ψ2, ψ3, ψ4, φ8, l3, s3, ?_, ?_, ?_, ?_, h8', (f6.trans f7).trans k2, k3, f5.trans k4, f8⟩
  · unfold F_X1_pass
    simp only [gR_PM, gK_PM, gI_PM, g0, lr_some hC.k1, hh, e1, cl_some, g2, lr_some hC.k9, e2, e3, e4]
    rw [e5, cl_some]
    refine Eq.trans e6 ?_
    unfold F_X1_pass_p74
    simp only [bnd, gI_PM, hh, ofN_add1]
  · intro b k hb hk
    exact ((hS2 b k hb hk).1 (Or.inl hb)).1
  · intro b k hb hk
    exact ((hS2 b k hb hk).1 (Or.inl hb)).2.1
  · intro b k hb hk
    exact ((hS2 b k hb hk).1 (Or.inl hb)).2.2
