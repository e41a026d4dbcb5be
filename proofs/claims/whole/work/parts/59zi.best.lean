theorem op_best {x o : Nat} {M W : Mem} (h : Rel x o M W) (a : Int32) : OPR x o M W (F_X11_best M x a) (F_X12_best W o a) := by
  have r2 : OPR x o M W (F_X11_best_p10 M x) (cl (F_X12_refuseLong W o (-2)) fun M r => some (M, r)) := opr_map id (opr_refuseL h rf2 (by omega) (by omega)) (fun _ _ => rfl) (fun _ _ => rfl)
  obtain ⟨ha, ua, ba, ma, ea, ra, rb, tg, hr, hR⟩ := id h
  have hC := hR.csh
  have hI := hR.mi
  have hS := hI.sh
  have hh := hR.2.1.1
  have hh2 := hh.2
  have hTk := hR.2.2.2.1
  obtain ⟨⟨cr, t1, t2⟩, t3⟩ := hR.2.1.2.2.2.2.2.1
  have t31 := t3.1
  have t32 := t3.2
  have z0 : (0 : Int32).toInt = 0 := by decide
  have z24 : (24 : Int32).toInt = 24 := by decide
  have l0 : (0 : Int64).toInt = 0 := by decide
  have l24 : (24 : Int64).toInt = 24 := by decide
  have hT : TK cr (ndS W o hr) (prS W o hr) (gI W 1335 o).toInt64 := by
    refine ⟨t2, by rw [Int32.toInt_toInt64]; omega, by rw [Int32.toInt_toInt64]; omega, fun k => ?_⟩
    obtain ⟨n1, n2⟩ := need_bt hI (hr + k)
    have q := (hI.pr (i := (hr + k) % 24) (by omega)).1
    refine ⟨n1, n2, ?_, ?_⟩
    · unfold prS
      rw [Int32.toInt_toInt64]
      exact q.1
    · unfold prS
      rw [Int32.toInt_toInt64]
      exact q.2
  obtain ⟨β, p1, p2, p3, p4⟩ := c_plan hC hI hR.hor hR.tor (hr := hr) (by omega) (hTk.1.trans t1) (congrArg Int32.toInt64 hTk.2.1) hT hTk.2.2
  obtain ⟨γ, q1, q2, q3, q4⟩ := m_plans (o := o) (hr := hr) (W := W) ⟨hI, hh.1, by omega, t1, rfl, hT⟩
  have hW : WM o W (ZB W γ) (fun _ => False) (fun _ => False) (fun j => j = 43 ∨ j = 44) := ⟨rfl, rfl, rfl, rfl, rfl, rfl, rfl, rfl, fun _ _ => rfl, fun _ _ => rfl, fun j z => q4 _ (by omega) (by omega)⟩
  have hF : FM M (ZB M β) (fun _ _ => False) (fun _ _ => False) (fun _ _ => False) (fun _ => False) (fun a => x + 17 ≤ a ∧ a < x + 45) (fun _ => False) := ⟨Nat.le_refl _, rfl, fun a _ => ⟨rfl, rfl, fun _ _ => rfl, fun _ _ => rfl, fun _ _ => rfl, fun _ => rfl, fun z => p4 a z, fun _ => rfl⟩⟩
  have hR1 := upd_best hR hF hW rfl rfl
  unfold F_X11_best F_X12_best
  rw [m_in, cl_some]
  by_cases c1 : isB 25 a
  · have c1' : (0 : Int64) ≤ a.toInt64 ∧ a.toInt64 ≤ 24 := by
      rw [Int64.le_iff_toInt_le, Int64.le_iff_toInt_le, Int32.toInt_toInt64, l0, l24]
      have := c1.2
      exact ⟨c1.1, by omega⟩
    have d1 : ¬ a < 0 := by
      rw [Int32.lt_iff_toInt_lt, z0]
      have := c1.1
      omega
    have d2 : a ≤ (24 : Int32) := by
      rw [Int32.le_iff_toInt_le, z24]
      have := c1.2
      omega
    rw [if_pos c1', if_neg one_nz, if_neg d1, if_pos d2, hC.r1204, lr_some hC.k16, hC.r1200, lr_some hC.k1, hC.r1205, lr_some hC.k46, hR.dr.1, p1, cl_some]
    dsimp only
    rw [q1, cl_some]
    show OPR x o M W (lr (gR M 1204 x) (gK M) 10 _) _
    rw [hC.r1204, lr_some hC.k16]
    show OPR x o M W (lr (gR M 902 (x + 16)) (gK M) 21 _) _
    rw [hC.r902, lr_some hC.k17]
    show OPR x o M W (if Int32.ofNat (gN M (x + 17)) ≤ a then _ else _) _
    rw [hC.n17]
    obtain ⟨k, hk, rfl⟩ := isB_of c1
    by_cases e1 : k = 24
    · subst e1
      rw [if_pos (show Int32.ofNat 24 ≤ Int32.ofNat 24 from Int32.le_refl _), if_pos (show Int32.ofNat 24 = (24 : Int32) from rfl)]
      refine opr_of (r := tkL cr (ndS W o hr) (prS W o hr) (gI W 1335 o).toInt64 24 0) ?_ ?_ hR1 rfl rfl rfl rfl
      · show lr (gR M 1204 x) (gK M) 10 _ = _
        rw [hC.r1204, lr_some hC.k16]
        have e : F_X8_leastCost (ZB M β) (x + 16) = some (ZB M β, β (x + 21) 0) := by
          unfold F_X8_leastCost
          show lr (gR M 905 (x + 16)) (gK M) 24 _ = _
          rw [hC.r905, lr_some hC.k20]
          show grd (inb 0 (gN M (x + 20))) _ = _
          rw [hC.n20, grd_pos (by decide)]
          show lr (gO M (x + 20) 0) (gK M) 21 _ = _
          rw [(hC.cr (i := 0) (by omega)).1, lr_some (hC.cr (i := 0) (by omega)).2.1]
          show grd (inb 0 (gN M (x + (21 + 0)))) _ = _
          rw [(hC.cr (i := 0) (by omega)).2.2, grd_pos (by decide)]
          rfl
        rw [e, cl_some]
        unfold F_X11_best_p66
        dsimp only
        rw [p3]
      · show lr (gR W 1356 o) (gK W) 21 _ = _
        rw [hS.r1356, lr_some hS.k43]
        show grd (inb 0 (gN W (o + 43))) _ = _
        rw [hS.n43, grd_pos (by decide)]
        show some (ZB W γ, γ (o + 43) 0) = _
        rw [q3]
    · have hk24 : k < 24 := by omega
      have i1 : inb (Int32.ofNat k) 24 := ofN_inb (by omega) hk24
      have i2 : ixn (Int32.ofNat k) = k := ofN_ix (by omega)
      have g1 : ¬ Int32.ofNat 24 ≤ Int32.ofNat k := fun z => by
        have := (ofN_le (by omega) (by omega)).mp z
        omega
      have g2 : ¬ Int32.ofNat k = (24 : Int32) := fun z => e1 ((ofN_eq (m := 24) (by omega) (by omega)).mp z)
      rw [if_neg g1, if_neg g2]
      refine opr_of (r := boS (ndS W o hr) (gI W 1335 o).toInt64 k (bestJ cr (ndS W o hr) (prS W o hr) (gI W 1335 o).toInt64 k (heldS cr (ndS W o hr) (prS W o hr) (gI W 1335 o).toInt64 k))) ?_ ?_ hR1 rfl rfl rfl rfl
      · show lr (gR M 1204 x) (gK M) 10 _ = _
        rw [hC.r1204, lr_some hC.k16]
        show lr (gR M 902 (x + 16)) (gK M) 21 _ = _
        rw [hC.r902, lr_some hC.k17]
        show grd (inb _ (gN M (x + 17))) _ = _
        rw [hC.n17, grd_pos i1, i2]
        show some (ZB M β, β (x + 17) k) = _
        rw [p2 k hk24]
      · show lr (gR W 1357 o) (gK W) 21 _ = _
        rw [hS.r1357, lr_some hS.k44]
        show grd (inb _ (gN W (o + 44))) _ = _
        rw [hS.n44, grd_pos i1, i2]
        show some (ZB W γ, γ (o + 44) k) = _
        rw [q2 k hk24]
  · have c1' : ¬ ((0 : Int64) ≤ a.toInt64 ∧ a.toInt64 ≤ 24) := by
      rw [Int64.le_iff_toInt_le, Int64.le_iff_toInt_le, Int32.toInt_toInt64, l0, l24]
      exact fun k => c1 ⟨k.1, by omega⟩
    rw [if_neg c1', if_pos rfl]
    by_cases d1 : a < 0
    · rw [if_pos d1]
      exact r2
    · rw [if_neg d1, if_neg]
      · exact r2
      · intro k
        have k1 := i32_le.mp k
        rw [Int32.lt_iff_toInt_lt, z0] at d1
        exact c1 ⟨by omega, by omega⟩
