theorem op_reading {x o : Nat} {M W : Mem} (h : Rel x o M W) (b v : Int32) : OPR x o M W (F_X11_reading M x b v) (F_X12_reading W o b v) := by
  have r6 : OPR x o M W (F_X11_reading_p54 M x) (F_X12_reading_p42 W o) := opr_map id (opr_refuse h rf6 (by omega) (by omega)) (fun _ _ => rfl) (fun _ _ => rfl)
  refine bore_cases b ?_ ?_ h
  · intro ha ua ba ma ea ra rb tg hr hR i hi e1 f1 f2
    have hC := hR.csh
    have hI := hR.mi
    have hS := hI.sh
    have h8 := hI.nb8
    have h1 := hI.rg1 hi
    have hRe := hR.2.2.2.2.2.1
    have h7 := hR.2.1.2.2.2.2.2.2.1
    have hh := hR.2.1.1
    have hK := hR.2.2.2.2.2.2.1.1
    have htop := hC.top
    have hbo := hR.bos.2.2.2 i hi
    have hr0 := hbo.2.2.2.2.2.2.2.2 0 (by omega)
    unfold F_X11_reading F_X12_reading
    rw [hC.r1205, lr_some hC.k46, f1, cl_some, f2, cl_some, if_neg (show ¬ (1 : Int32) = 0 by decide)]
    show OPR x o M W (lr (gR M 1207 x) (gK M) 1 _) _
    rw [hC.r1207, lr_some hC.k52, c_size, cl_some]
    dsimp only
    by_cases c1 : (-100000 : Int32) ≤ v
    · rw [if_pos c1, if_pos c1]
      by_cases c2 : (200000 : Int32) < v
      · rw [if_pos c2, if_pos c2]
        exact r6
      · rw [if_neg c2, if_neg c2, hRe.1.2.1, h7.1]
        have h20 := h7.2.1
        have en := h7.1
        generalize hn : ndW W o = n at h20 en
        by_cases c3 : n < 20
        · obtain ⟨M3, p1, p2, p3, p4, p5, p6⟩ := r_reading hR hn c3 b (v.toInt64 - wS W o (gB W (o + 11)) i 0)
          have i1 : inb (Int32.ofNat n) 20 := ofN_inb (by omega) c3
          have i2 : ixn (Int32.ofNat n) = n := ofN_ix (by omega)
          have g7 : ¬ Int32.ofNat n = (20 : Int32) := fun z => by
            have := (ofN_eq (m := 20) (by omega) (by omega)).mp z
            omega
          have q1 := nO_at (M := M) (k := 5) (n := 3) (y := x) (by omega)
          have q2 := nO_at (M := M) (k := 5) (n := 3) (y := x + 46) (by omega)
          have q3 := nO_at (M := M) (k := 5) (n := 3) (y := ba i) (FM.lt hK hbo.1 (by omega))
          have q4 := nO_at (M := M) (k := 5) (n := 3) (y := ra i 0) (FM.lt hK hr0.1 (by omega))
          refine ⟨M3, RW W o n b (Int32.ofNat hr) (v.toInt64 - wS W o (gB W (o + 11)) i 0), Int32.ofNat n, ?_, ?_, p2, p3, p4, p5, p6, rfl, rfl⟩
          · rw [if_pos (show Int32.ofNat n < (20 : Int32) from (ofN_lt (m := 20) (by omega) (by omega)).mpr c3), hC.r1207, lr_some hC.k52]
            refine bnd_i (bnd_i ?_)
            rw [q1.2.2.2 1205, hC.r1205, lr_some (q2.1.trans hC.k46), grd_pos (q3.1.trans hbo.1), q3.2.2.2 105, hbo.2.2.2.2.2.1, lr_some (q4.1.trans hr0.1), q2.2.1 206, q4.2.2.1 503, hR.dr.1, hR.dr.2.2.1 i 0 hi (by omega)]
            have ei : F_X3_init (nO M 5 3) (gH M) b (Int32.ofNat hr) (v.toInt64 - wS W o (gB W (o + 11)) i 0) = some (NR M b (Int32.ofNat hr) (v.toInt64 - wS W o (gB W (o + 11)) i 0), ()) := by
              unfold F_X3_init
              exact bnd_i (bnd_i (bnd_i rfl))
            rw [ei, cl_some]
            dsimp only
            rw [p1, cl_some]
          · rw [if_neg g7, hS.r1337, lr_some hS.k28, hS.n28, grd_pos i1, i2]
            refine bnd_i ?_
            show lr (gR W 1338 o) (gK W) 20 _ = _
            rw [hS.r1338, lr_some hS.k29]
            show grd (inb (gI W 1336 o) (gN W (o + 29))) _ = _
            rw [hS.n29, en, grd_pos i1]
            refine bnd_i ?_
            show lr (gR W 1339 o) (gK W) 21 _ = _
            rw [hS.r1339, lr_some hS.k30]
            show cl (F_X12_warmthOf (sA (sA W (o + 28) n b) (o + 29) (ixn (gI W 1336 o)) (gI W 1301 o)) o b 0) _ = _
            rw [en, i2, hh.1, e1]
            have hw : F_X12_warmthOf (sA (sA W (o + 28) n (Int32.ofNat i)) (o + 29) n (Int32.ofNat hr)) o (Int32.ofNat i) 0 = some (sA (sA W (o + 28) n (Int32.ofNat i)) (o + 29) n (Int32.ofNat hr), wS W o (gB W (o + 11)) i 0) := by
              have g5 : gA (sA (sA W (o + 28) n (Int32.ofNat i)) (o + 29) n (Int32.ofNat hr)) (o + 5) = gA W (o + 5) := by rw [gA_nf (by omega), gA_nf (by omega)]
              have g6 : gA (sA (sA W (o + 28) n (Int32.ofNat i)) (o + 29) n (Int32.ofNat hr)) (o + 6) = gA W (o + 6) := by rw [gA_nf (by omega), gA_nf (by omega)]
              have t := m_warmthOf (M := sA (sA W (o + 28) n (Int32.ofNat i)) (o + 29) n (Int32.ofNat hr)) (b := i) (k := 0) (hS.to rfl rfl rfl rfl) (by omega) (by omega) (by rw [g5, g6]; exact hI.hold hi (by omega))
              rw [g5, g6] at t
              exact t
            rw [hw, cl_some]
            show grd (inb (gI W 1336 o) (gN W (o + 30))) _ = _
            rw [hS.n30, en, grd_pos i1]
            refine bnd_i (bnd_i ?_)
            show some (sI (sB (sA (sA W (o + 28) n (Int32.ofNat i)) (o + 29) n (Int32.ofNat hr)) (o + 30) (ixn (gI W 1336 o)) (v.toInt64 - wS W o (gB W (o + 11)) i 0)) 1336 o (gI W 1336 o + 1), gI (sI (sB (sA (sA W (o + 28) n (Int32.ofNat i)) (o + 29) n (Int32.ofNat hr)) (o + 30) (ixn (gI W 1336 o)) (v.toInt64 - wS W o (gB W (o + 11)) i 0)) 1336 o (gI W 1336 o + 1)) 1336 o - 1) = _
            rw [gI_sI, if_pos ⟨rfl, rfl⟩, en, i2, show Int32.ofNat n + 1 = Int32.ofNat (n + 1) from ofN_succ, show Int32.ofNat (n + 1) - 1 = Int32.ofNat n from ofN_subk (k := 1) (by omega) (by omega)]
            rfl
        · have : n = 20 := by omega
          subst this
          rw [if_neg (show ¬ Int32.ofNat 20 < (20 : Int32) by decide), if_pos (show Int32.ofNat 20 = (20 : Int32) from rfl)]
          exact r6
    · rw [if_neg c1, if_neg c1]
      exact opr_map id (opr_refuse h rf4 (by omega) (by omega)) (fun _ _ => rfl) (fun _ _ => rfl)
  · intro f3 f4 f1 f2
    unfold F_X11_reading F_X12_reading
    rw [f3, lr_some f4, f1, f2, cl_some, cl_some, if_pos rfl]
    exact opr_map id (opr_refuse h rf1 (by omega) (by omega)) (fun _ _ => rfl) (fun _ _ => rfl)
