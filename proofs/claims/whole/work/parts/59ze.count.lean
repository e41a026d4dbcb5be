theorem swi_at {β : Type} {k : Nat} (hk : k < 1000) (bs : List (Option β)) (d : Option β) : swi (Int32.ofNat k) 0 bs d = (bs[k]?).getD d := by
  unfold swi
  rw [ofN_toInt (by omega), if_neg (by omega), show ((k : Int) - 0).toNat = k by omega]
theorem swi_no {β : Type} {a : Int32} {bs : List (Option β)} (d : Option β) (h : ¬ isB bs.length a) : swi a 0 bs d = d := by
  unfold swi
  by_cases c : a.toInt < 0
  · rw [if_pos c]
  · rw [if_neg c, List.getElem?_eq_none (by
      have : ¬ a.toInt < bs.length := fun k => h ⟨by omega, k⟩
      omega)]
    rfl
def cntS (f : Nat → Prop) [DecidablePred f] : Nat → Nat → Int32 → Int32
  | 0, _, a => a
  | d + 1, k, a => cntS f d (k + 1) (a + if f k then 0 else 1)
theorem c_openOnes {x p o : Nat} {M W : Mem} (hG : GrS x p M) (hI : MI o W) {ba : Nat → Nat} {ra : Nat → Nat → Nat} (hB : BoS p M o W ba ra) (hH : BoH p M o W ba) : ∀ d k fu a, k + d = nbW W o → F_X1_openOnes_p4 F_X1_openOnes_p46 (fu + d + 1) M p a (Int32.ofNat k) = some (M, cntS (fun b => gA W (o + 10) b = 0) d k a) := by
  have h8 := hI.nb8
  intro d
  induction d with
  | zero =>
    intro k fu a hk
    have : k = nbW W o := by omega
    unfold F_X1_openOnes_p4 F_X1_openOnes_p46
    rw [hG.2.2.2.2.1, lr_some hG.2.2.2.2.2.2.1, c_size, cl_some]
    dsimp only
    rw [hB.1.2.1, this, if_pos (Int32.le_refl _)]
    rfl
  | succ d ih =>
    intro k fu a hk
    have hkn : k < nbW W o := by omega
    have c1 : ¬ Int32.ofNat (nbW W o) ≤ Int32.ofNat k := fun z => by
      have := (ofN_le (by omega) (by omega)).mp z
      omega
    have es : Int32.ofNat k + 1 = Int32.ofNat (k + 1) := ofN_succ
    have t := ih (k + 1) fu (a + if gA W (o + 10) k = 0 then 0 else 1) (by omega)
    unfold F_X1_openOnes_p4
    rw [hG.2.2.2.2.1, lr_some hG.2.2.2.2.2.2.1, c_size, cl_some]
    dsimp only
    rw [hB.1.2.1, if_neg c1, hG.2.2.2.2.1, lr_some hG.2.2.2.2.2.2.1, c_get hB.1 hkn, cl_some]
    dsimp only
    rw [lr_some (hB.2.2.2 k hkn).1, (hH.2 k hkn).2.2, show fu + (d + 1) = fu + d + 1 by omega]
    unfold F_X1_openOnes_p38
    show _ = some (M, cntS (fun b => gA W (o + 10) b = 0) d (k + 1) (a + if gA W (o + 10) k = 0 then 0 else 1))
    by_cases c : gA W (o + 10) k = 0
    · rw [if_pos c] at t ⊢
      refine bnd_i (bnd_i ?_)
      rw [es, t, if_pos c]
    · rw [if_neg c] at t ⊢
      refine bnd_i (bnd_i ?_)
      rw [es, t, if_neg c]
theorem m_openOnes {o : Nat} {W : Mem} (hI : MI o W) : ∀ d k fu a, k + d = nbW W o → F_X12_count_p64 F_X12_count_p95 (fu + d + 1) W o a (Int32.ofNat k) = some (W, cntS (fun b => gA W (o + 10) b = 0) d k a) := by
  have h8 := hI.nb8
  have hS := hI.sh
  intro d
  induction d with
  | zero =>
    intro k fu a hk
    have : k = nbW W o := by omega
    unfold F_X12_count_p64 F_X12_count_p95
    rw [hI.nb, this, if_pos (Int32.le_refl _)]
    rfl
  | succ d ih =>
    intro k fu a hk
    have hkn : k < nbW W o := by omega
    have c1 : ¬ Int32.ofNat (nbW W o) ≤ Int32.ofNat k := fun z => by
      have := (ofN_le (by omega) (by omega)).mp z
      omega
    have es : Int32.ofNat k + 1 = Int32.ofNat (k + 1) := ofN_succ
    have t := ih (k + 1) fu (a + if gA W (o + 10) k = 0 then 0 else 1) (by omega)
    have b1 : inb (Int32.ofNat k) 8 := ofN_inb (by omega) (by omega)
    have b2 : ixn (Int32.ofNat k) = k := ofN_ix (by omega)
    unfold F_X12_count_p64
    rw [hI.nb, if_neg c1, hS.r1311, lr_some hS.k10, hS.n10, grd_pos b1, b2, show fu + (d + 1) = fu + d + 1 by omega]
    unfold F_X12_count_p87
    show _ = some (W, cntS (fun b => gA W (o + 10) b = 0) d (k + 1) (a + if gA W (o + 10) k = 0 then 0 else 1))
    by_cases c : gA W (o + 10) k = 0
    · rw [if_pos c] at t ⊢
      refine bnd_i (bnd_i ?_)
      rw [es, t, if_pos c]
    · rw [if_neg c] at t ⊢
      refine bnd_i (bnd_i ?_)
      rw [es, t, if_neg c]
theorem c_joinedOn {x o : Nat} {M W : Mem} (hC : CSh x M) (hI : MI o W) {ha : Nat → Nat} (hH : HoR x M o W ha) (day : Int32) : ∀ d k fu a, k + d = nhW W o → F_X10_joinedOn_p4 F_X10_joinedOn_p47 (fu + d + 1) M (x + 1) day a (Int32.ofNat k) = some (M, cntS (fun i => ¬ jnd (gA W (o + 17)) day i = true) d k a) := by
  have h20 := hI.nh20
  intro d
  induction d with
  | zero =>
    intro k fu a hk
    have : k = nhW W o := by omega
    unfold F_X10_joinedOn_p4 F_X10_joinedOn_p47
    rw [hC.r1100, lr_some hC.k2, c_size, cl_some]
    dsimp only
    rw [hH.1.2.1, this, if_pos (Int32.le_refl _)]
    rfl
  | succ d ih =>
    intro k fu a hk
    have hkn : k < nhW W o := by omega
    have c1 : ¬ Int32.ofNat (nhW W o) ≤ Int32.ofNat k := fun z => by
      have := (ofN_le (by omega) (by omega)).mp z
      omega
    have es : Int32.ofNat k + 1 = Int32.ofNat (k + 1) := ofN_succ
    have t := ih (k + 1) fu (a + if ¬ jnd (gA W (o + 17)) day k = true then 0 else 1) (by omega)
    obtain ⟨q1, q2, q3, q4, q5, q6⟩ := hH.2 k hkn
    unfold F_X10_joinedOn_p4
    rw [hC.r1100, lr_some hC.k2, c_size, cl_some]
    dsimp only
    rw [hH.1.2.1, if_neg c1, hC.r1100, lr_some hC.k2, c_get hH.1 hkn, cl_some]
    dsimp only
    rw [lr_some q1, c_joined q5 q6 day, cl_some, show fu + (d + 1) = fu + d + 1 by omega]
    unfold F_X10_joinedOn_p39
    show _ = some (M, cntS (fun i => ¬ jnd (gA W (o + 17)) day i = true) d (k + 1) (a + if ¬ jnd (gA W (o + 17)) day k = true then 0 else 1))
    by_cases c : jnd (gA W (o + 17)) day k = true
    · have cn : ¬ ¬ jnd (gA W (o + 17)) day k = true := fun z => z c
      rw [if_neg cn] at t ⊢
      rw [if_pos c]
      dsimp only
      rw [if_neg one_nz]
      refine bnd_i (bnd_i ?_)
      rw [es]
      exact t
    · rw [if_pos c] at t ⊢
      rw [if_neg c]
      dsimp only
      rw [if_pos rfl]
      refine bnd_i (bnd_i ?_)
      rw [es]
      exact t
theorem m_joinedOn {o : Nat} {W : Mem} (hI : MI o W) {day : Int32} (hd : gI W 1301 o / (24 : Int32) = day) : ∀ d k fu a, k + d = nhW W o → F_X12_count_p104 F_X12_count_p141 (fu + d + 1) W o a (Int32.ofNat k) = some (W, cntS (fun i => ¬ jnd (gA W (o + 17)) day i = true) d k a) := by
  have h20 := hI.nh20
  have hS := hI.sh
  intro d
  induction d with
  | zero =>
    intro k fu a hk
    have : k = nhW W o := by omega
    unfold F_X12_count_p104 F_X12_count_p141
    rw [hI.nh, this, if_pos (Int32.le_refl _)]
    rfl
  | succ d ih =>
    intro k fu a hk
    have hkn : k < nhW W o := by omega
    have c1 : ¬ Int32.ofNat (nhW W o) ≤ Int32.ofNat k := fun z => by
      have := (ofN_le (by omega) (by omega)).mp z
      omega
    have es : Int32.ofNat k + 1 = Int32.ofNat (k + 1) := ofN_succ
    have t := ih (k + 1) fu (a + if ¬ jnd (gA W (o + 17)) day k = true then 0 else 1) (by omega)
    unfold F_X12_count_p104
    rw [hI.nh, if_neg c1, hd, m_isJoined hS (by omega), cl_some, show fu + (d + 1) = fu + d + 1 by omega]
    unfold F_X12_count_p133
    show _ = some (W, cntS (fun i => ¬ jnd (gA W (o + 17)) day i = true) d (k + 1) (a + if ¬ jnd (gA W (o + 17)) day k = true then 0 else 1))
    by_cases c : jnd (gA W (o + 17)) day k = true
    · have cn : ¬ ¬ jnd (gA W (o + 17)) day k = true := fun z => z c
      rw [if_neg cn] at t ⊢
      rw [if_pos c]
      dsimp only
      rw [if_neg one_nz]
      refine bnd_i (bnd_i ?_)
      rw [es]
      exact t
    · rw [if_pos c] at t ⊢
      rw [if_neg c]
      dsimp only
      rw [if_pos rfl]
      refine bnd_i (bnd_i ?_)
      rw [es]
      exact t
theorem op_count {x o : Nat} {M W : Mem} (h : Rel x o M W) (a : Int32) : OPR x o M W (F_X11_count M x a) (F_X12_count W o a) := by
  obtain ⟨ha, ua, ba, ma, ea, ra, rb, tg, hr, hR⟩ := id h
  have hC := hR.csh
  have hI := hR.mi
  have hS := hI.sh
  have h8 := hI.nb8
  have h20 := hI.nh20
  have e1 := hR.2.1.1
  have h7 := hR.2.1.2.2.2.2.2.2.1
  unfold F_X11_count F_X12_count F_X11_count_p173 F_X11_count_p175 F_X12_count_p191
  by_cases c1 : isB 9 a
  · obtain ⟨k, hk, rfl⟩ := isB_of c1
    rw [swi_at (by omega), swi_at (by omega)]
    have : k = 0 ∨ k = 1 ∨ k = 2 ∨ k = 3 ∨ k = 4 ∨ k = 5 ∨ k = 6 ∨ k = 7 ∨ k = 8 := by omega
    rcases this with rfl | rfl | rfl | rfl | rfl | rfl | rfl | rfl | rfl
    · refine opr_same (r := gI W 1301 o) h ?_ rfl
      show lr _ _ _ _ = _
      rw [hC.r1205, lr_some hC.k46, hR.dr.1, e1.1]
    · refine opr_same (r := gI W 1302 o) h ?_ rfl
      show lr _ _ _ _ = _
      rw [hC.r1205, lr_some hC.k46, hC.r203_46, lr_some hC.k47, c_size, cl_some]
      dsimp only
      rw [hR.bos.1.2.1, hI.nb]
    · have t1 := c_openOnes hC.g46 hI hR.bos hR.boh (nbW W o) 0 (FU - (nbW W o + 1)) 0 (by omega)
      have t2 := m_openOnes hI (nbW W o) 0 (FU - (nbW W o + 1)) 0 (by omega)
      rw [show FU - (nbW W o + 1) + nbW W o + 1 = FU by unfold FU; omega] at t1 t2
      refine opr_same h ?_ t2
      show lr _ _ _ _ = _
      rw [hC.r1205, lr_some hC.k46]
      unfold F_X1_openOnes
      rw [show F_X1_openOnes_p4 F_X1_openOnes_p46 FU M (x + 46) 0 0 = _ from t1, cl_some]
    · refine opr_same (r := gI W 1316 o) h ?_ rfl
      show lr _ _ _ _ = _
      rw [hC.r1200, lr_some hC.k1, hC.r1100, lr_some hC.k2, c_size, cl_some]
      dsimp only
      rw [hR.hor.1.2.1, hI.nh]
    · have t2 := m_joinedOn hI (day := Int32.ofNat hr / (24 : Int32)) (by rw [e1.1]) (nhW W o) 0 (FU - (nhW W o + 1)) 0 (by omega)
      have t1 := c_joinedOn hC hI hR.hor (Int32.ofNat hr / (24 : Int32)) (nhW W o) 0 (FU - (nhW W o + 1)) 0 (by omega)
      rw [show FU - (nhW W o + 1) + nhW W o + 1 = FU by unfold FU; omega] at t1 t2
      refine opr_same h ?_ t2
      show lr _ _ _ _ = _
      rw [hC.r1200, lr_some hC.k1, hC.r1205, lr_some hC.k46, hR.dr.1]
      unfold F_X10_joinedOn
      rw [show F_X10_joinedOn_p4 F_X10_joinedOn_p47 FU M (x + 1) (Int32.ofNat hr / 24) 0 0 = _ from t1, cl_some]
    · refine opr_same (r := gI W 1322 o) h ?_ rfl
      show lr _ _ _ _ = _
      rw [hC.r1201, lr_some hC.k6, hR.tar.1]
    · refine opr_same (r := gI W 1329 o) h ?_ rfl
      show lr _ _ _ _ = _
      rw [hC.r1202, lr_some hC.k9, hC.r700, lr_some hC.k10, c_size, cl_some]
      dsimp only
      rw [hR.rur.1.2.1, hI.nr]
    · refine opr_same (r := gI W 1328 o) h ?_ rfl
      show lr _ _ _ _ = _
      rw [hC.r1203, lr_some hC.k13, hR.2.2.1.1]
    · refine opr_same (r := gI W 1336 o) h ?_ rfl
      show lr _ _ _ _ = _
      rw [hC.r1207, lr_some hC.k52, c_size, cl_some]
      dsimp only
      rw [hR.2.2.2.2.2.1.1.2.1, h7.1]
  · rw [swi_no _ c1, swi_no _ c1, m_in, cl_some]
    have z10 : (10 : Int32).toInt = 10 := by decide
    have l11 : (11 : Int64).toInt = 11 := by decide
    have l16 : (16 : Int64).toInt = 16 := by decide
    have hmx : a.toInt < 2147483648 := Int32.toInt_lt a
    by_cases c2 : a ≤ (10 : Int32)
    · have c3 : ¬ ((11 : Int64) ≤ a.toInt64 ∧ a.toInt64 ≤ 16) := by
        rw [Int64.le_iff_toInt_le, Int32.toInt_toInt64, l11]
        have := i32_le.mp c2
        omega
      rw [if_pos c2, if_neg c3, if_pos rfl]
      exact opr_same h rfl rfl
    · have c2' := i32_nge.mp c2
      rw [Int32.lt_iff_toInt_lt, z10] at c2'
      have ed : (a - (10 : Int32)).toInt = a.toInt - 10 := by rw [i32_sub (by omega) (by omega), z10]
      rw [if_neg c2, hC.r1208, lr_some hC.k53, hC.n53]
      by_cases c4 : Int32.ofNat 7 ≤ a - (10 : Int32)
      · have c3 : ¬ ((11 : Int64) ≤ a.toInt64 ∧ a.toInt64 ≤ 16) := by
          rw [Int64.le_iff_toInt_le, Int64.le_iff_toInt_le, Int32.toInt_toInt64, l16]
          have := i32_le.mp c4
          rw [ofN_toInt (by omega)] at this
          omega
        rw [if_pos c4, if_neg c3, if_pos rfl]
        exact opr_same h rfl rfl
      · have c4' := i32_nge.mp c4
        rw [Int32.lt_iff_toInt_lt, ofN_toInt (by omega)] at c4'
        have c3 : (11 : Int64) ≤ a.toInt64 ∧ a.toInt64 ≤ 16 := by
          rw [Int64.le_iff_toInt_le, Int64.le_iff_toInt_le, Int32.toInt_toInt64, l16, l11]
          omega
        obtain ⟨k, hk, e⟩ := isB_of (n := 7) (b := a - (10 : Int32)) ⟨by omega, by omega⟩
        have i1 : inb (Int32.ofNat k) 7 := ofN_inb (by omega) hk
        have i2 : ixn (Int32.ofNat k) = k := ofN_ix (by omega)
        rw [if_neg c4, if_pos c3, if_neg one_nz, lr_some hC.k53, hC.n53, hS.r1300, lr_some hS.k1, hS.n1, e, grd_pos i1, grd_pos i1, i2, hR.2.2.2.2.1 k hk]
        exact opr_same h rfl rfl
