theorem op_join {x o : Nat} {M W : Mem} (h : Rel x o M W) (a v : Int32) : OPR x o M W (F_X11_join M x a v) (F_X12_join W o a v) := by
  have r1 : OPR x o M W (F_X11_join_p18 M x) (cl (F_X12_refuse W o (-1)) fun M r => some (M, r)) := opr_map id (opr_refuse h rf1 (by omega) (by omega)) (fun _ _ => rfl) (fun _ _ => rfl)
  obtain ⟨ha, ua, ba, ma, ea, ra, rb, tg, hr, hR⟩ := id h
  have hC := hR.csh
  have hI := hR.mi
  have hS := hI.sh
  have hH := hR.hor
  have h20 := hI.nh20
  have z0 : (0 : Int32).toInt = 0 := by decide
  unfold F_X11_join F_X12_join
  rw [m_in, cl_some, hI.nh, hC.r1200, lr_some hC.k1, hC.r1100, lr_some hC.k2, c_size, cl_some]
  by_cases c1 : isB (nhW W o) a
  · obtain ⟨i, hi, rfl⟩ := isB_of c1
    obtain ⟨k1, k2, k3, k4, k5, k6⟩ := hH.2 i hi
    have i1 : inb (Int32.ofNat i) 20 := ofN_inb (by omega) (by omega)
    have i2 : ixn (Int32.ofNat i) = i := ofN_ix (by omega)
    rw [if_neg (ofN_n0 (by omega)), if_pos ((in_n (by omega) _).mpr c1), if_neg one_nz]
    dsimp only
    rw [hH.1.2.1, if_pos ((ofN_lt (by omega) (by omega)).mpr hi), hC.r1200, lr_some hC.k1, hC.r1100, lr_some hC.k2, c_get hH.1 hi, cl_some]
    show OPR x o M W (lr _ _ _ _) _
    rw [lr_some k1, k5, hS.r1320, lr_some hS.k17, hS.n17, grd_pos i1, i2]
    by_cases c2 : gA W (o + 17) i < 0
    · obtain ⟨⟨hh1, hh2⟩, -⟩ := hR.2.1
      rw [if_pos c2, if_pos rfl, if_pos c2, hC.r1205, lr_some hC.k46, hR.dr.1, hh1, d24 (by omega), c_beyond, cl_some]
      dsimp only
      by_cases c3 : Int32.ofNat (hr / 24) ≤ v
      · rw [if_pos c3, if_pos c3]
        by_cases c4 : v ≤ (333 : Int32)
        · rw [if_pos c4, if_pos c4, if_pos rfl, grd_pos (Or.inr rfl), lr_some hS.k17, hS.n17, grd_pos i1]
          have w1 := i32_le.mp c3
          rw [ofN_toInt (by omega)] at w1
          have hv : ¬ v < 0 := by
            rw [Int32.lt_iff_toInt_lt, z0]
            omega
          have hW := wm_sA (o := o) (W := W) 17 i v
          refine opr_of (M1 := sI (sI M 303 (ha i) 1) 304 (ha i) v) (W1 := sA W (o + 17) i v) (r := 1) (bnd_i (bnd_i rfl)) (bnd_i rfl) (upd_join (c := i) hR ⟨Nat.le_refl _, rfl, fun a1 _ => ⟨rfl, rfl, fun f z => ?_, fun _ _ => rfl, fun _ _ => rfl, fun _ => rfl, fun _ => rfl, fun _ => rfl⟩⟩ hW rfl rfl ⟨hH.1, fun j hj => ?_⟩ (fun j hj hj2 => ?_)) rfl rfl rfl rfl
          · rw [gI_sI, if_neg (fun k => z ⟨by omega, k.2⟩), gI_sI, if_neg (fun k => z ⟨by omega, k.2⟩)]
          · have hj : j < nhW W o := hj
            obtain ⟨q1, q2, q3, q4, q5, q6⟩ := hH.2 j hj
            rw [gI_nf (by omega), gI_nf (by omega), gI_nf (by omega), gI_nf (by omega), gI_nf (by omega), gI_nf (by omega), gI_nf (show ¬ 303 = 304 by omega), gI_sf, gI_sf, gI_nf (show ¬ 304 = 303 by omega), gA_nf (by omega), gA_nf (by omega), gA_nf (by omega), gA_sf]
            refine ⟨q1, q2, q3, q4, ?_, ?_⟩
            · by_cases c5 : j = i
              · subst c5
                rw [ud_s, ud_s, if_neg hv]
              · rw [ud_n _ (fun z => c5 (hR.2.2.2.2.2.2.2 _ _ hj hi z)), ud_n _ c5]
                exact q5
            · by_cases c5 : j = i
              · subst c5
                rw [ud_s, ud_s]
                exact fun _ => rfl
              · rw [ud_n _ (fun z => c5 (hR.2.2.2.2.2.2.2 _ _ hj hi z)), ud_n _ c5]
                exact q6
          · have hj : nhW W o ≤ j := hj
            rw [gA_sf, ud_n _ (by omega)]
            exact hR.2.1.2.2.2.2.2.2.2.1 j hj hj2
        · rw [if_neg c4, if_neg c4, if_neg neg6_nz]
          exact opr_map id (opr_refuse h rf6 (by omega) (by omega)) (fun _ _ => rfl) (fun _ _ => rfl)
      · rw [if_neg c3, if_neg c3, if_neg neg4_nz]
        exact opr_map id (opr_refuse h rf4 (by omega) (by omega)) (fun _ _ => rfl) (fun _ _ => rfl)
    · rw [if_neg c2, if_neg one_nz, if_neg c2]
      exact opr_map id (opr_refuse h rf3 (by omega) (by omega)) (fun _ _ => rfl) (fun _ _ => rfl)
  · rw [if_neg (fun z => c1 ((in_n (by omega) _).mp z)), if_pos rfl]
    by_cases c2 : a < 0
    · rw [if_pos c2]
      exact r1
    · rw [if_neg c2]
      dsimp only
      rw [hH.1.2.1, if_neg]
      · exact r1
      · intro c3
        rw [Int32.lt_iff_toInt_lt, ofN_toInt (by omega)] at c3
        rw [Int32.lt_iff_toInt_lt, z0] at c2
        exact c1 ⟨by omega, by omega⟩
