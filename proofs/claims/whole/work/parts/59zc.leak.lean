/-- the first and the last reading of a bore, as class and model keep them -/
def LKS (nd : Nat) (ea : Nat → Nat) (x3 x4 : Option Nat) (u v : Int32) : Prop := (x3 = none ∧ x4 = none ∧ u = -1 ∧ v = -1) ∨ ∃ i j, i < nd ∧ j < nd ∧ x3 = some (ea i) ∧ x4 = some (ea j) ∧ u = Int32.ofNat i ∧ v = Int32.ofNat j
theorem leak_end {x o : Nat} {M W : Mem} {ha ua ba ma ea : Nat → Nat} {ra rb : Nat → Nat → Nat} {tg : Nat → Nat} {hr : Nat} (hR : REL x o M W ha ua ba ma ea ra rb tg hr) {b : Nat} (hb : b < nbW W o) {x3 x4 : Option Nat} {u v : Int32} (hL : LKS (ndW W o) ea x3 x4 u v) : OPR x o M W (F_X11_leak_p83 M x (ba b) x3 x4) (F_X12_leak_p61 W o (Int32.ofNat b) u v) := by
  have h := hR.to
  have hI := hR.mi
  have hS := hI.sh
  have h8 := hI.nb8
  have hre := hR.2.2.2.2.2.1.2
  have h7 := hR.2.1.2.2.2.2.2.2.1
  have hnd := h7.2.1
  have hbo := hR.bos.2.2.2 b hb
  have hr1 := hI.rg1 hb
  have r3 : OPR x o M W (F_X11_leak_p104 M x) (F_X12_leak_p80 W o) := opr_map id (opr_refuseL h rf3 (by omega) (by omega)) (fun _ _ => rfl) (fun _ _ => rfl)
  unfold F_X11_leak_p83 F_X12_leak_p61
  rcases hL with ⟨rfl, rfl, rfl, rfl⟩ | ⟨i, j, hi, hj, rfl, rfl, rfl, rfl⟩
  · rw [if_pos (show (-1 : Int32) < 0 by decide)]
    exact r3
  · obtain ⟨i1, i2, i3, i4⟩ := hre i hi
    obtain ⟨j1, j2, j3, j4⟩ := hre j hj
    have n1 : inb (Int32.ofNat i) 20 := ofN_inb (by omega) (by omega)
    have n2 : ixn (Int32.ofNat i) = i := ofN_ix (by omega)
    have m1 : inb (Int32.ofNat j) 20 := ofN_inb (by omega) (by omega)
    have m2 : ixn (Int32.ofNat j) = j := ofN_ix (by omega)
    have b1 : inb (Int32.ofNat b) 8 := ofN_inb (by omega) (by omega)
    have b2 : ixn (Int32.ofNat b) = b := ofN_ix (by omega)
    have q1 := h7.2.2 i hi
    have q2 := h7.2.2 j hj
    rw [if_neg (ofN_n0 (by omega)), hS.r1338, lr_some hS.k29, hS.n29, grd_pos n1, lr_some hS.k29, hS.n29, grd_pos m1, n2, m2]
    show OPR x o M W (grd _ (grd _ _)) _
    rw [grd_pos i1, grd_pos j1, i3, j3]
    by_cases c : gA W (o + 29) i = gA W (o + 29) j
    · rw [if_pos c, if_pos c]
      exact r3
    · rw [if_neg c, if_neg c, grd_pos hbo.1, hbo.2.2.2.2.2.1, lr_some (hbo.2.2.2.2.2.2.2.2 0 (by omega)).1, i4, j4, (hbo.2.2.2.2.2.2.2.2 0 (by omega)).2.1]
      have hz : ¬ (gA W (o + 29) j - gA W (o + 29) i).toInt64 = 0 := by
        intro k
        have k1 := congrArg Int64.toInt k
        have z0 : (0 : Int64).toInt = 0 := by decide
        have q11 := q1.1
        have q12 := q1.2
        have q21 := q2.1
        have q22 := q2.2
        rw [Int32.toInt_toInt64, z0, i32_sub (by omega) (by omega)] at k1
        exact c (Int32.toInt_inj.mp (by omega))
      have e0 : holdS (gA W (o + 5)) (gA W (o + 6)) b 0 = gA W (o + 5) b := by
        show gA W (o + 5) b + (0 : Int32) * gA W (o + 6) b = _
        rw [Int32.zero_mul, Int32.add_zero]
      rw [c_cut hz, cl_some, e0, hS.r1339, lr_some hS.k30, hS.n30, grd_pos n1, lr_some hS.k30, hS.n30, grd_pos m1, hS.r1306, lr_some hS.k5, hS.n5, grd_pos b1, lr_some hS.k29, hS.n29, grd_pos m1, lr_some hS.k29, hS.n29, grd_pos n1, grd_pos hz, b2]
      exact opr_same h rfl rfl
theorem leak_loop {x o : Nat} {M W : Mem} {ha ua ba ma ea : Nat → Nat} {ra rb : Nat → Nat → Nat} {tg : Nat → Nat} {hr : Nat} (hR : REL x o M W ha ua ba ma ea ra rb tg hr) {b : Nat} (hb : b < nbW W o) : ∀ d k fu x3 x4 u v, k + d = ndW W o → LKS (ndW W o) ea x3 x4 u v → OPR x o M W (F_X11_leak_p27 F_X11_leak_p83 (fu + d + 1) M x (Int32.ofNat b) (ba b) x3 x4 (Int32.ofNat k)) (F_X12_leak_p21 F_X12_leak_p61 (fu + d + 1) W o (Int32.ofNat b) u v (Int32.ofNat k)) := by
  have hC := hR.csh
  have hI := hR.mi
  have hS := hI.sh
  have hRe := hR.2.2.2.2.2.1
  have h7 := hR.2.1.2.2.2.2.2.2.1
  have hnd := h7.2.1
  intro d
  induction d with
  | zero =>
    intro k fu x3 x4 u v hk hL
    have : k = ndW W o := by omega
    unfold F_X11_leak_p27 F_X12_leak_p21
    rw [hC.r1207, lr_some hC.k52, c_size, cl_some]
    dsimp only
    rw [hRe.1.2.1, h7.1, ← this, if_pos (Int32.le_refl _), if_pos (Int32.le_refl _)]
    exact leak_end hR hb hL
  | succ d ih =>
    intro k fu x3 x4 u v hk hL
    have hk2 : k < ndW W o := by omega
    have c1 : ¬ Int32.ofNat (ndW W o) ≤ Int32.ofNat k := fun z => by
      have := (ofN_le (by omega) (by omega)).mp z
      omega
    have n1 : inb (Int32.ofNat k) 20 := ofN_inb (by omega) (by omega)
    have n2 : ixn (Int32.ofNat k) = k := ofN_ix (by omega)
    obtain ⟨i1, i2, i3, i4⟩ := hRe.2 k hk2
    unfold F_X11_leak_p27 F_X12_leak_p21
    rw [hC.r1207, lr_some hC.k52, c_size, cl_some]
    dsimp only
    rw [hRe.1.2.1, h7.1, if_neg c1, if_neg c1, hC.r1207, lr_some hC.k52, c_get hRe.1 hk2, cl_some, hS.r1337, lr_some hS.k28, hS.n28, grd_pos n1, n2]
    show OPR x o M W (lr _ _ _ _) _
    rw [lr_some i1, i2, show fu + (d + 1) = fu + d + 1 by omega]
    unfold F_X11_leak_p72 F_X12_leak_p51 F_X11_leak_p77 F_X12_leak_p55
    have es : Int32.ofNat k + 1 = Int32.ofNat (k + 1) := ofN_succ
    by_cases c : gA W (o + 28) k = Int32.ofNat b
    · rw [if_pos c, if_pos c]
      rcases hL with ⟨rfl, rfl, rfl, rfl⟩ | ⟨i, j, hi, hj, rfl, rfl, rfl, rfl⟩
      · rw [if_neg (show ¬ (0 : Int32) ≤ -1 by decide), es]
        exact ih (k + 1) fu _ _ _ _ (by omega) (Or.inr ⟨k, k, hk2, hk2, rfl, rfl, rfl, rfl⟩)
      · rw [if_pos (show (0 : Int32) ≤ Int32.ofNat i from (ofN_le (n := 0) (by omega) (by omega)).mpr (by omega)), es]
        exact ih (k + 1) fu _ _ _ _ (by omega) (Or.inr ⟨i, k, hi, hk2, rfl, rfl, rfl, rfl⟩)
    · rw [if_neg c, if_neg c, es]
      exact ih (k + 1) fu _ _ _ _ (by omega) hL
theorem op_leak {x o : Nat} {M W : Mem} (h : Rel x o M W) (b : Int32) : OPR x o M W (F_X11_leak M x b) (F_X12_leak W o b) := by
  refine bore_cases b ?_ ?_ h
  · intro ha ua ba ma ea ra rb tg hr hR i hi e1 f1 f2
    have h7 := hR.2.1.2.2.2.2.2.2.1
    have hnd := h7.2.1
    unfold F_X11_leak F_X12_leak
    rw [hR.csh.r1205, lr_some hR.csh.k46, f1, cl_some, f2, cl_some, if_neg (show ¬ (1 : Int32) = 0 by decide), e1]
    have t := leak_loop hR hi (ndW W o) 0 (FU - (ndW W o + 1)) none none (-1) (-1) (by omega) (Or.inl ⟨rfl, rfl, rfl, rfl⟩)
    rw [show FU - (ndW W o + 1) + ndW W o + 1 = FU by unfold FU; omega] at t
    exact t
  · intro f3 f4 f1 f2
    unfold F_X11_leak F_X12_leak
    rw [f3, lr_some f4, f1, f2, cl_some, cl_some, if_pos rfl]
    exact opr_map id (opr_refuseL h rf1 (by omega) (by omega)) (fun _ _ => rfl) (fun _ _ => rfl)
