/-- rings of bores below i, and of bore i the rings below j, follow -/
def STF (W : Mem) (o : Nat) (rb : Nat → Nat → Nat) (h : Nat → Int64) (i j : Nat) (φ2 φ3 φ4 : Nat → Int64) : Prop := ∀ b k, b < nbW W o → k < rgW W o b → (b < i ∨ (b = i ∧ k < j)) → φ2 (rb b k) = h (8 * b + k) ∧ φ3 (rb b k) = wS W o h b k ∧ φ4 (rb b k) = 0
def DJ (W : Mem) (o : Nat) (ra rb : Nat → Nat → Nat) : Prop := ∀ b k b' k', b < nbW W o → k < rgW W o b → b' < nbW W o → k' < rgW W o b' → ¬ ra b k = rb b' k'
def DJB (W : Mem) (o : Nat) (ba ma : Nat → Nat) : Prop := ∀ b b', b < nbW W o → b' < nbW W o → ¬ ba b = ma b'
theorem c_ringFollow (M : Mem) (x p : Nat) (φ2 φ3 φ4 φg t l s : Nat → Int64) (a b : Nat) : F_X4_follow (PM M x p φ2 φ3 φ4 φg t l s) a b = some (PM M x p (ud φ2 a (φ2 b)) (ud φ3 a (φ3 b)) (ud φ4 a 0) φg t l s, ()) := by
  unfold F_X4_follow
  simp only [bnd, PM_502, sP502, PM_503, sP503, sP504]
theorem c_rings_follow {x p p0 o : Nat} {M W : Mem} (hI : MI o W) {ba ma : Nat → Nat} {ra rb : Nat → Nat → Nat} (hBm : BoS p M o W ma rb) (hBg : BoS p0 M o W ba ra) (hDJ : DJ W o ra rb) {h φg t l s : Nat → Int64} {b : Nat} (hb : b < nbW W o) : ∀ (r k f : Nat) (φ2 φ3 φ4 : Nat → Int64), k + r = rgW W o b → r < f → AG (nbW W o) (rgW W o) ra φ2 h → AW W o ra φ3 h → STF W o rb h b k φ2 φ3 φ4 →
    ∃ φ5 φ6 φ7, F_X0_follow_p34 F_X0_follow_p87 f (PM M x p φ2 φ3 φ4 φg t l s) (ma b) (ba b) (Int32.ofNat k) = some (PM M x p φ5 φ6 φ7 φg t l s, ()) ∧ AG (nbW W o) (rgW W o) ra φ5 h ∧ AW W o ra φ6 h ∧ STF W o rb h b (rgW W o b) φ5 φ6 φ7 ∧ FR (nbW W o) (rgW W o) rb φ2 φ5 ∧ FR (nbW W o) (rgW W o) rb φ3 φ6 ∧ FR (nbW W o) (rgW W o) rb φ4 φ7 := by
  obtain ⟨-, hinj, -, hbo⟩ := hBm
  obtain ⟨-, -, -, -, -, -, -, ⟨la, e4, hla⟩, hr⟩ := hbo b hb
  obtain ⟨-, -, -, hbg⟩ := hBg
  obtain ⟨-, -, -, -, -, -, -, ⟨lg, g4, hlg⟩, hrg⟩ := hbg b hb
  have hr8 := hI.rg8 hb
  intro r
  induction r with
  | zero =>
    intro k f φ2 φ3 φ4 hk hf hA hW hS
    obtain ⟨f, rfl⟩ : ∃ z, f = z + 1 := ⟨f - 1, by omega⟩
    have : k = rgW W o b := by omega
    subst this
    refine ⟨φ2, φ3, φ4, ?_, hA, hW, hS, FR.refl _, FR.refl _, FR.refl _⟩
    unfold F_X0_follow_p34 F_X0_follow_p87
    simp only [gR_PM, gK_PM, gI_PM, e4, lr_some hla.1, c_size, cl_some, hla.2.1]
    rw [if_pos ((ofN_le (by omega) (by omega)).mpr (by omega))]
  | succ r ih =>
    intro k f φ2 φ3 φ4 hk hf hA hW hS
    obtain ⟨f, rfl⟩ : ∃ z, f = z + 1 := ⟨f - 1, by omega⟩
    have hkr : k < rgW W o b := by omega
    have hg := c_get (lisPM hla x p φ2 φ3 φ4 φg t l s) (i := k) hkr
    have hg2 := c_get (lisPM hlg x p φ2 φ3 φ4 φg t l s) (i := k) hkr
    have ne : ∀ b' k', b' < nbW W o → k' < rgW W o b' → ¬ ra b' k' = rb b k := fun b' k' z1 z2 => hDJ _ _ _ _ z1 z2 hb hkr
    have hA1 : AG (nbW W o) (rgW W o) ra (ud φ2 (rb b k) (φ2 (ra b k))) h := fun b' k' z1 z2 => (ud_n _ (ne b' k' z1 z2) _).trans (hA b' k' z1 z2)
    have hW1 : AW W o ra (ud φ3 (rb b k) (φ3 (ra b k))) h := fun b' k' z1 z2 => (ud_n _ (ne b' k' z1 z2) _).trans (hW b' k' z1 z2)
    have hS1 : STF W o rb h b (k + 1) (ud φ2 (rb b k) (φ2 (ra b k))) (ud φ3 (rb b k) (φ3 (ra b k))) (ud φ4 (rb b k) 0) := by
      intro b' k' z1 z2 z3
      by_cases e : b' = b ∧ k' = k
      · obtain ⟨rfl, rfl⟩ := e
        rw [ud_s, ud_s, ud_s]
        exact ⟨hA _ _ hb hkr, hW _ _ hb hkr, rfl⟩
      · have hne : ¬ rb b' k' = rb b k := fun z => e (hinj _ _ _ _ z1 z2 hb hkr z)
        rw [ud_n _ hne, ud_n _ hne, ud_n _ hne]
        exact hS b' k' z1 z2 (by omega)
    obtain ⟨φ5, φ6, φ7, q1, q2, q3, q4, q5, q6, q7⟩ := ih (k + 1) f _ _ _ (by omega) (by omega) hA1 hW1 hS1
    refine ⟨φ5, φ6, φ7, ?_, q2, q3, q4, (FR.ud φ2 hb hkr _).trans q5, (FR.ud φ3 hb hkr _).trans q6, (FR.ud φ4 hb hkr _).trans q7⟩
    rw [← q1]
    have hlt : ¬ Int32.ofNat (rgW W o b) ≤ Int32.ofNat k := by
      rw [ofN_le (by omega) (by omega)]
      omega
    conv => lhs; unfold F_X0_follow_p34
    simp only [gR_PM, gK_PM, gI_PM, e4, g4, lr_some hla.1, lr_some hlg.1, c_size, cl_some, hla.2.1, hlg.2.1, if_neg hlt]
    simp only [hg, hg2, cl_some, gR_PM, gK_PM, lr_some (hr k hkr).1, g4, lr_some hlg.1, lr_some (hrg k hkr).1, c_ringFollow, bnd, ofN_succ]
/-- what a bore is told is the other's -/
def TOL (M : Mem) (a b : Nat) : Mem := sI (sI (sI M 107 a (gI M 107 b)) 108 a (gI M 108 b)) 109 a (gI M 109 b)
theorem TOL_frm {x p nb : Nat} {rg ba : Nat → Nat} {ra : Nat → Nat → Nat} (M : Mem) {i : Nat} (hi : i < nb) (b : Nat) : FRM x p nb rg ba ra M (TOL M (ba i) b) := by
  refine ⟨rfl, rfl, rfl, rfl, rfl, rfl, rfl, rfl, fun f a z1 z2 z3 => ?_, fun _ _ _ _ _ _ => rfl, FR.refl _, FR.refl _, FR.refl _, FRG.refl _, fun _ _ _ _ => rfl⟩
  unfold TOL
  rw [gI_sI, if_neg (fun k => z2 ⟨by omega, i, hi, k.2⟩), gI_sI, if_neg (fun k => z2 ⟨by omega, i, hi, k.2⟩), gI_sI, if_neg (fun k => z2 ⟨by omega, i, hi, k.2⟩)]
theorem TOL_107 (M : Mem) (a b : Nat) : gI (TOL M a b) 107 = ud (gI M 107) a (gI M 107 b) := by
  unfold TOL
  rw [gI_nf (by omega), gI_nf (by omega), gI_sf]
theorem TOL_108 (M : Mem) (a b : Nat) : gI (TOL M a b) 108 = ud (gI M 108) a (gI M 108 b) := by
  unfold TOL
  rw [gI_nf (by omega), gI_sf, gI_nf (by omega)]
theorem TOL_109 (M : Mem) (a b : Nat) : gI (TOL M a b) 109 = ud (gI M 109) a (gI M 109 b) := by
  unfold TOL
  rw [gI_sf, gI_nf (by omega), gI_nf (by omega)]
theorem TOL_n (M : Mem) (a b f : Nat) (h1 : ¬ f = 107) (h2 : ¬ f = 108) (h3 : ¬ f = 109) : gI (TOL M a b) f = gI M f := by
  unfold TOL
  rw [gI_nf h3, gI_nf h2, gI_nf h1]
theorem c_boreFollow {x p p0 o : Nat} {M W : Mem} (hI : MI o W) {ba ma : Nat → Nat} {ra rb : Nat → Nat → Nat} (hBm : BoS p M o W ma rb) (hBg : BoS p0 M o W ba ra) (hH : BoH p0 M o W ba) (hDJ : DJ W o ra rb) {h t l s : Nat → Int64} {b : Nat} (hb : b < nbW W o) (φ2 φ3 φ4 φg : Nat → Int64) (hA : AG (nbW W o) (rgW W o) ra φ2 h) (hW : AW W o ra φ3 h) (hS : STF W o rb h b 0 φ2 φ3 φ4) :
    ∃ φ5 φ6 φ7, F_X0_follow (PM M x p φ2 φ3 φ4 φg t l s) (ma b) (ba b) = some (PM (TOL M (ma b) (ba b)) x p φ5 φ6 φ7 (ud φg (ma b) (φg (ba b))) t l s, ()) ∧ AG (nbW W o) (rgW W o) ra φ5 h ∧ AW W o ra φ6 h ∧ STF W o rb h b (rgW W o b) φ5 φ6 φ7 ∧ FR (nbW W o) (rgW W o) rb φ2 φ5 ∧ FR (nbW W o) (rgW W o) rb φ3 φ6 ∧ FR (nbW W o) (rgW W o) rb φ4 φ7 := by
  have hr8 := hI.rg8 hb
  have h8 := hI.nb8
  have hF : FRM x p (nbW W o) (rgW W o) ma rb M (TOL M (ma b) (ba b)) := TOL_frm M hb _
  obtain ⟨φ5, φ6, φ7, q1, q2⟩ := c_rings_follow (x := x) (φg := ud φg (ma b) (φg (ba b))) (t := t) (l := l) (s := s) hI (hF.bos hBm) (hF.bos hBg) hDJ hb (rgW W o b) 0 FU φ2 φ3 φ4 (by omega) (by unfold FU; omega) hA hW hS
  refine ⟨φ5, φ6, φ7, ?_, q2⟩
  have ho : gI M 109 (ba b) = 0 ∨ gI M 109 (ba b) = 1 := by
    rw [(hH.2 b hb).2.2]
    exact hI.op (by omega)
  refine Eq.trans ?_ q1
  unfold F_X0_follow
  have e1 : gI (sI (PM M x p φ2 φ3 φ4 φg t l s) 107 (ma b) (gI M 107 (ba b))) 108 = gI M 108 := by rw [gI_nf (by omega), gI_PM]
  have e2 : gI (sI (sI (PM M x p φ2 φ3 φ4 φg t l s) 107 (ma b) (gI M 107 (ba b))) 108 (ma b) (gI M 108 (ba b))) 109 = gI M 109 := by rw [gI_nf (by omega), gI_nf (by omega), gI_PM]
  simp only [bnd, gI_PM, e1, e2, grd_pos ho]
  have e3 : sI (sI (sI (PM M x p φ2 φ3 φ4 φg t l s) 107 (ma b) (gI M 107 (ba b))) 108 (ma b) (gI M 108 (ba b))) 109 (ma b) (gI M 109 (ba b)) = PM (TOL M (ma b) (ba b)) x p φ2 φ3 φ4 φg t l s := rfl
  rw [e3, PM_110, sP110]
  rfl
theorem c_bores_follow {x p p0 o : Nat} {W M0 : Mem} (hG : GrS x p M0) (hG0 : GrS x p0 M0) (hI : MI o W) {ba ma : Nat → Nat} {ra rb : Nat → Nat → Nat} (hBm : BoS p M0 o W ma rb) (hBg : BoS p0 M0 o W ba ra) (hDJ : DJ W o ra rb) (hDB : DJB W o ba ma) {h g t l s : Nat → Int64} : ∀ (r i f : Nat) (M : Mem) (φ2 φ3 φ4 φg : Nat → Int64), i + r = nbW W o → r < f → FRM x p (nbW W o) (rgW W o) ma rb M0 M → BoH p0 M o W ba → (∀ b, b < i → gI M 107 (ma b) = gA W (o + 8) b ∧ gI M 108 (ma b) = gA W (o + 9) b ∧ gI M 109 (ma b) = gA W (o + 10) b) → AG (nbW W o) (rgW W o) ra φ2 h → AW W o ra φ3 h → STF W o rb h i 0 φ2 φ3 φ4 → AGG (nbW W o) ba φg g → (∀ b, b < i → φg (ma b) = g b) →
    ∃ M1 φ5 φ6 φ7 φ8, F_X1_follow_p56 F_X1_follow_p109 f (PM M x p φ2 φ3 φ4 φg t l s) p p0 (Int32.ofNat i) = some (PM M1 x p φ5 φ6 φ7 φ8 t l s, ()) ∧ FRM x p (nbW W o) (rgW W o) ma rb M0 M1 ∧ (∀ f, ¬ f = 107 → ¬ f = 108 → ¬ f = 109 → gI M1 f = gI M f) ∧ gJ M1 = gJ M ∧ gB M1 = gB M ∧ (∀ b, b < nbW W o → gI M1 107 (ma b) = gA W (o + 8) b ∧ gI M1 108 (ma b) = gA W (o + 9) b ∧ gI M1 109 (ma b) = gA W (o + 10) b) ∧ STF W o rb h (nbW W o) 0 φ5 φ6 φ7 ∧ (∀ b, b < nbW W o → φ8 (ma b) = g b) ∧ FR (nbW W o) (rgW W o) rb φ2 φ5 ∧ FR (nbW W o) (rgW W o) rb φ3 φ6 ∧ FR (nbW W o) (rgW W o) rb φ4 φ7 ∧ FRG (nbW W o) ma φg φ8 := by
  have h8 := hI.nb8
  have hminj := hBm.2.2.1
  intro r
  induction r with
  | zero =>
    intro i f M φ2 φ3 φ4 φg hi hf hF hH hT hA hW hS hg hgm
    obtain ⟨f, rfl⟩ : ∃ z, f = z + 1 := ⟨f - 1, by omega⟩
    have : i = nbW W o := by omega
    subst this
    refine ⟨M, φ2, φ3, φ4, φg, ?_, hF, fun _ _ _ _ => rfl, rfl, rfl, hT, hS, hgm, FR.refl _, FR.refl _, FR.refl _, FRG.refl _⟩
    obtain ⟨-, -, -, -, g3, -, g5, -⟩ := hF.grs hG
    obtain ⟨lm, -⟩ := hF.bos hBm
    unfold F_X1_follow_p56 F_X1_follow_p109
    simp only [gR_PM, gK_PM, gI_PM, g3, lr_some g5, c_size, cl_some, lm.2.1]
    rw [if_pos ((ofN_le (by omega) (by omega)).mpr (by omega))]
  | succ r ih =>
    intro i f M φ2 φ3 φ4 φg hi hf hF hH hT hA hW hS hg hgm
    obtain ⟨f, rfl⟩ : ∃ z, f = z + 1 := ⟨f - 1, by omega⟩
    have hib : i < nbW W o := by omega
    have hr8 := hI.rg8 hib
    obtain ⟨φ5, φ6, φ7, q1, q2, q3, q4, q5, q6, q7⟩ := c_boreFollow (x := x) (t := t) (l := l) (s := s) hI (hF.bos hBm) (hF.bos hBg) hH hDJ hib φ2 φ3 φ4 φg hA hW hS
    have hF1 : FRM x p (nbW W o) (rgW W o) ma rb M0 (TOL M (ma i) (ba i)) := hF.trans (TOL_frm M hib _)
    have hH1 : BoH p0 (TOL M (ma i) (ba i)) o W ba := by
      refine ⟨?_, fun b hb => ?_⟩
      · rw [TOL_n _ _ _ _ (by omega) (by omega) (by omega)]
        exact hH.1
      · have hne : ¬ ba b = ma i := hDB b i hb hib
        rw [TOL_107, TOL_108, TOL_109, ud_n _ hne, ud_n _ hne, ud_n _ hne]
        exact hH.2 b hb
    have hT1 : ∀ b, b < i + 1 → gI (TOL M (ma i) (ba i)) 107 (ma b) = gA W (o + 8) b ∧ gI (TOL M (ma i) (ba i)) 108 (ma b) = gA W (o + 9) b ∧ gI (TOL M (ma i) (ba i)) 109 (ma b) = gA W (o + 10) b := by
      intro b hb
      rw [TOL_107, TOL_108, TOL_109]
      by_cases e : b = i
      · subst e
        rw [ud_s, ud_s, ud_s]
        exact hH.2 b hib
      · have hne : ¬ ma b = ma i := fun z => e (hminj _ _ (by omega) hib z)
        rw [ud_n _ hne, ud_n _ hne, ud_n _ hne]
        exact hT b (by omega)
    have hS1 : STF W o rb h (i + 1) 0 φ5 φ6 φ7 := by
      intro b k z1 z2 z3
      refine q4 b k z1 z2 ?_
      by_cases e : b = i
      · subst e
        exact Or.inr ⟨rfl, z2⟩
      · omega
    have hg1 : AGG (nbW W o) ba (ud φg (ma i) (φg (ba i))) g := fun b hb => (ud_n _ (hDB b i hb hib) _).trans (hg b hb)
    have hgm1 : ∀ b, b < i + 1 → ud φg (ma i) (φg (ba i)) (ma b) = g b := by
      intro b hb
      by_cases e : b = i
      · subst e
        rw [ud_s]
        exact hg b hib
      · rw [ud_n _ (fun z => e (hminj _ _ (by omega) hib z))]
        exact hgm b (by omega)
    obtain ⟨M1, ψ5, ψ6, ψ7, ψ8, p1, p2, p3, p4, p5, p6, p7, p8, p9, pa, pb, pc⟩ := ih (i + 1) f (TOL M (ma i) (ba i)) φ5 φ6 φ7 (ud φg (ma i) (φg (ba i))) (by omega) (by omega) hF1 hH1 hT1 q2 q3 hS1 hg1 hgm1
    refine ⟨M1, ψ5, ψ6, ψ7, ψ8, ?_, p2, fun f z1 z2 z3 => (p3 f z1 z2 z3).trans (TOL_n _ _ _ _ z1 z2 z3), p4, p5, p6, p7, p8, q5.trans p9, q6.trans pa, q7.trans pb, (FRG.ud φg hib _).trans pc⟩
    rw [← p1]
    obtain ⟨-, -, -, -, g3, -, g5, -⟩ := hF.grs hG
    obtain ⟨-, -, -, -, k3, -, k5, -⟩ := hF.grs hG0
    obtain ⟨lm, -, -, lbm⟩ := hF.bos hBm
    obtain ⟨lg, -, -, lbg⟩ := hF.bos hBg
    have hgm := c_get (lisPM lm x p φ2 φ3 φ4 φg t l s) (i := i) hib
    have hgg := c_get (lisPM lg x p φ2 φ3 φ4 φg t l s) (i := i) hib
    have hlt : ¬ Int32.ofNat (nbW W o) ≤ Int32.ofNat i := by
      rw [ofN_le (by omega) (by omega)]
      omega
    conv => lhs; unfold F_X1_follow_p56
    simp only [gR_PM, gK_PM, gI_PM, g3, k3, lr_some g5, lr_some k5, c_size, cl_some, lm.2.1, lg.2.1, if_neg hlt]
    simp only [hgm, hgg, cl_some, gR_PM, gK_PM, lr_some (lbm i hib).1, k3, lr_some k5, lr_some (lbg i hib).1, q1, bnd, ofN_succ]
theorem c_totals_follow {x p p0 : Nat} {M : Mem} (hG : GrS x p M) (hG0 : GrS x p0 M) (hp : ¬ p = p0) {φ2 φ3 φ4 φg l s : Nat → Int64} (kk : Mem → Nat → Nat → Option (Mem × Unit)) : ∀ (r i f : Nat), i + r = 9 → r < f →
    F_X1_follow_p18 kk f (PM M x p φ2 φ3 φ4 φg (cpR i (gB M (p0 + 2)) (gB M (p + 2))) l s) p p0 (Int32.ofNat i) = kk (PM M x p φ2 φ3 φ4 φg (cpR 9 (gB M (p0 + 2)) (gB M (p + 2))) l s) p p0 := by
  obtain ⟨-, -, -, -, -, g4, -, g6, g7, g8⟩ := hG
  obtain ⟨-, -, -, -, -, k4, -, k6, k7, k8⟩ := hG0
  intro r
  induction r with
  | zero =>
    intro i f hi hf
    obtain ⟨f, rfl⟩ : ∃ z, f = z + 1 := ⟨f - 1, by omega⟩
    have : i = 9 := by omega
    subst this
    unfold F_X1_follow_p18
    simp only [gR_PM, gK_PM, gN_PM, g4, lr_some g6, g7]
    rw [if_pos (Int32.le_refl _)]
  | succ r ih =>
    intro i f hi hf
    obtain ⟨f, rfl⟩ : ∃ z, f = z + 1 := ⟨f - 1, by omega⟩
    have i1 : inb (Int32.ofNat i) 9 := ofN_inb (by omega) (by omega)
    have i2 : ixn (Int32.ofNat i) = i := ofN_ix (by omega)
    have e1 : ∀ t, gB (PM M x p φ2 φ3 φ4 φg t l s) (p0 + 2) = gB M (p0 + 2) := by
      intro t
      rw [gB_PM, if_neg (by omega), if_neg (by omega), if_neg (by omega)]
    rw [← ih (i + 1) f (by omega) (by omega)]
    have hlt : ¬ Int32.ofNat 9 ≤ Int32.ofNat i := by
      rw [ofN_le (by omega) (by omega)]
      omega
    conv => lhs; unfold F_X1_follow_p18
    simp only [gR_PM, gK_PM, gN_PM, g4, k4, lr_some g6, lr_some k6, g7, k7, if_neg hlt]
    simp only [grd_pos i1, i2, e1, bnd, sPt _ _ _ _ _ _ _ _ _ _ g8, cpR_succ, ofN_succ]
/-- the ground in mind follows the ground -/
theorem c_follow {x o hr : Nat} {M W : Mem} (hC : CSh x M) (hI : MI o W) {ba ma : Nat → Nat} {ra rb : Nat → Nat → Nat} (hBm : BoS (x + 49) M o W ma rb) (hBg : BoS (x + 46) M o W ba ra) (hH : BoH (x + 46) M o W ba) (hDJ : DJ W o ra rb) (hDB : DJB W o ba ma) {h g t : Nat → Int64} (hD : DR (x + 46) o M W ba ra hr h g t) : ∃ M1 t1, F_X1_follow M (x + 49) (x + 46) = some (M1, ()) ∧ FRM x (x + 49) (nbW W o) (rgW W o) ma rb M M1 ∧ BoH (x + 49) M1 o W ma ∧ DR (x + 49) o M1 W ma rb hr h g t1 ∧ ∀ i, i < 9 → t1 i = t i := by
  obtain ⟨d1, d2, d3, d4, d5, d6⟩ := hD
  have h8 := hI.nb8
  have hGm := hC.g49
  have hGg := hC.g46
  generalize hM0 : sI (sI M 205 (x + 49) (gI M 205 (x + 46))) 206 (x + 49) (gI M 206 (x + 46)) = M0
  have hF0 : FRM x (x + 49) (nbW W o) (rgW W o) ma rb M M0 := by
    subst hM0
    refine ⟨rfl, rfl, rfl, rfl, rfl, rfl, rfl, rfl, fun f a z1 z2 z3 => ?_, fun _ _ _ _ _ _ => rfl, FR.refl _, FR.refl _, FR.refl _, FRG.refl _, fun _ _ _ _ => rfl⟩
    rw [gI_sI, if_neg (fun k => z1 ⟨by omega, k.2⟩), gI_sI, if_neg (fun k => z1 ⟨by omega, k.2⟩)]
  have hG1 := hF0.grs hGm
  have hG2 := hF0.grs hGg
  have hH0 : BoH (x + 46) M0 o W ba := by
    subst hM0
    refine ⟨?_, fun b hb => ?_⟩
    · rw [gI_nf (by omega), gI_sf, ud_n _ (by omega)]
      exact hH.1
    · rw [gI_nf (by omega), gI_nf (by omega), gI_nf (by omega), gI_nf (by omega), gI_nf (by omega), gI_nf (by omega)]
      exact hH.2 b hb
  have eJ : gJ M0 = gJ M := by subst hM0; rfl
  have eB : gB M0 = gB M := by subst hM0; rfl
  have e205 : gI M0 205 (x + 49) = gI M 205 (x + 46) := by
    subst hM0
    rw [gI_nf (by omega), gI_sf, ud_s]
  have e206 : gI M0 206 (x + 49) = gI M 206 (x + 46) := by
    subst hM0
    rw [gI_sf, ud_s]
  have ht := c_totals_follow (x := x) (φ2 := gJ M0 502) (φ3 := gJ M0 503) (φ4 := gJ M0 504) (φg := gJ M0 110) (l := gB M0 (x + 11)) (s := gB M0 (x + 12)) hG1 hG2 (by omega) F_X1_follow_p54 9 0 FU (by omega) (by unfold FU; omega)
  rw [cpR_zero, PM_self] at ht
  obtain ⟨M1, φ5, φ6, φ7, φ8, q1, q2, q3, q4, q5, q6, q7, q8, q9, qa, qb, qc⟩ := c_bores_follow (t := cpR 9 (gB M0 (x + 46 + 2)) (gB M0 (x + 49 + 2))) (l := gB M0 (x + 11)) (s := gB M0 (x + 12)) hG1 hG2 hI (hF0.bos hBm) (hF0.bos hBg) hDJ hDB (nbW W o) 0 FU M0 (gJ M0 502) (gJ M0 503) (gJ M0 504) (gJ M0 110) (by omega) (by unfold FU; omega) (FRM.refl _) hH0 (fun b hb => by omega) (by rw [eJ]; exact d2) (by rw [eJ]; exact d3) (fun b k z1 z2 z3 => by omega) (by rw [eJ]; exact d5) (fun b hb => by omega)
  have hFP : FRM x (x + 49) (nbW W o) (rgW W o) ma rb M0 (PM M1 x (x + 49) φ5 φ6 φ7 φ8 (cpR 9 (gB M0 (x + 46 + 2)) (gB M0 (x + 49 + 2))) (gB M0 (x + 11)) (gB M0 (x + 12))) := by
    obtain ⟨h1, h2, h3, h4, h5, h6, h7, h8, h9, ha, hb, hc, hd, he, hf⟩ := q2
    refine ⟨h1, h2, h3, h4, h5, h6, h7, h8, h9, fun f z1 z2 z3 z4 z5 => ?_, q9, qa, qb, qc, fun a z1 z2 z3 => ?_⟩
    · rw [gJ_PM, if_neg z1, if_neg z2, if_neg z3, if_neg z4]
      exact ha f z1 z2 z3 z4 z5
    · rw [gB_PM, if_neg z1, if_neg z2, if_neg z3]
      exact hf a z1 z2 z3
  refine ⟨_, cpR 9 (gB M0 (x + 46 + 2)) (gB M0 (x + 49 + 2)), ?_, hF0.trans hFP, ⟨?_, q6⟩, ⟨?_, ?_, ?_, ?_, q8, ?_⟩, fun i hi => ?_⟩
  · unfold F_X1_follow
    simp only [bnd]
    have e0 : gI (sI M 205 (x + 49) (gI M 205 (x + 46))) 206 = gI M 206 := gI_nf (by omega)
    rw [e0, hM0]
    refine Eq.trans ht ?_
    unfold F_X1_follow_p54
    exact q1
  · rw [gI_PM, q3 205 (by omega) (by omega) (by omega), e205]
    exact hH.1
  · rw [gI_PM, q3 206 (by omega) (by omega) (by omega), e206]
    exact d1
  · intro b k hb hk
    exact (q7 b k hb hk (Or.inl hb)).1
  · intro b k hb hk
    exact (q7 b k hb hk (Or.inl hb)).2.1
  · intro b k hb hk
    exact (q7 b k hb hk (Or.inl hb)).2.2
  · rw [PM_t _ _ _ _ _ _ _ _ _ _ (by omega)]
  · rw [cpR_lt hi, eB, ← d6]
