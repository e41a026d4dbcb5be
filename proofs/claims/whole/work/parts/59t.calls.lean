theorem i32_nge {a b : Int32} : ¬ a ≤ b ↔ b < a := by
  rw [Int32.le_iff_toInt_le, Int32.lt_iff_toInt_lt]
  omega
theorem op_lift {x o : Nat} {M W : Mem} (h : Rel x o M W) (a : Int32) : OPR x o M W (F_X11_lift M x a) (F_X12_lift W o a) := by
  unfold F_X11_lift F_X12_lift F_X11_lift_p31 F_X12_lift_p37
  rw [c_beyond, cl_some]
  by_cases c1 : (-100000 : Int32) ≤ a
  · by_cases c2 : a ≤ (200000 : Int32)
    · simp only [c1, c2, if_true]
      obtain ⟨ha, ua, ba, ma, ea, ra, rb, tg, hr, hR⟩ := id h
      have hC := hR.csh
      have hI := hR.mi
      have e : F_X12_liftAt W o a.toInt64 = some (W, lfS W o a.toInt64) := m_liftAt hI.sh hI.np hI.np8 (fun k hk => hI.dif hk) a.toInt64
      refine opr_same (r := (lfS W o a.toInt64).toInt32) h ?_ ?_
      · rw [hC.r1201, lr_some hC.k6, c_liftAt hC hI hR.tar, cl_some]
      · rw [e, cl_some]
    · simp only [c1, c2, if_true, if_false]
      exact opr_map id (opr_refuse h rf6 (by omega) (by omega)) (fun _ _ => rfl) (fun _ _ => rfl)
  · simp only [c1, if_false]
    exact opr_map id (opr_refuse h rf4 (by omega) (by omega)) (fun _ _ => rfl) (fun _ _ => rfl)
theorem op_need {x o : Nat} {M W : Mem} (h : Rel x o M W) (a : Int32) : OPR x o M W (F_X11_need M x a) (F_X12_need W o a) := by
  unfold F_X11_need F_X12_need F_X11_need_p29 F_X12_need_p34
  rw [c_beyond, cl_some]
  by_cases c1 : (0 : Int32) ≤ a
  · by_cases c2 : a ≤ (9999 : Int32)
    · simp only [c1, c2, if_true]
      obtain ⟨ha, ua, ba, ma, ea, ra, rb, tg, hr, hR⟩ := id h
      have hC := hR.csh
      have hI := hR.mi
      have z1 := i32_le.mp c1
      have z2 := i32_le.mp c2
      have e1 : (0 : Int32).toInt = 0 := by decide
      have e2 : (9999 : Int32).toInt = 9999 := by decide
      obtain ⟨t, ht, rfl⟩ := isB_of (n := 10000) (b := a) ⟨by omega, by omega⟩
      refine opr_same (r := needW W o t) h ?_ ?_
      · rw [hC.r1200, lr_some hC.k1, c_needOf hC hI hR.hor hR.tor (by omega), cl_some]
      · rw [m_needOf hI.sh hI.nh hI.nh20 (by omega), cl_some]
        rfl
    · simp only [c1, c2, if_true, if_false]
      exact opr_map id (opr_refuseL h rf6 (by omega) (by omega)) (fun _ _ => rfl) (fun _ _ => rfl)
  · simp only [c1, if_false]
    exact opr_map id (opr_refuseL h rf4 (by omega) (by omega)) (fun _ _ => rfl) (fun _ _ => rfl)
theorem op_wrong {x o : Nat} {M W : Mem} (h : Rel x o M W) (a : Int32) : OPR x o M W (F_X11_wrong M x a) (F_X12_wrong W o a) := by
  unfold F_X11_wrong F_X12_wrong F_X11_wrong_p37 F_X12_wrong_p30
  obtain ⟨ha, ua, ba, ma, ea, ra, rb, tg, hr, hR⟩ := id h
  have hC := hR.csh
  have hI := hR.mi
  have hS := hI.sh
  have hRe := hR.2.2.2.2.2.1
  have h7 := hR.2.1.2.2.2.2.2.2.1
  have hn := h7.2.1
  rw [m_in, cl_some, h7.1, hC.r1207, lr_some hC.k52, c_size, cl_some]
  have z0 : (0 : Int32).toInt = 0 := by decide
  by_cases c1 : isB (ndW W o) a
  · obtain ⟨k, hk, rfl⟩ := isB_of c1
    have i1 : inb (Int32.ofNat k) 20 := ofN_inb (by omega) (by omega)
    have i2 : ixn (Int32.ofNat k) = k := ofN_ix (by omega)
    obtain ⟨k1, k2, k3, k4⟩ := hRe.2 k hk
    rw [if_pos ((in_n (by omega) _).mpr c1), if_neg (ofN_n0 (by omega)), if_neg one_nz, hS.r1339, lr_some hS.k30, hS.n30, grd_pos i1, i2]
    refine opr_same (r := gB W (o + 30) k) h ?_ rfl
    dsimp only
    rw [hRe.1.2.1, if_pos ((ofN_lt (by omega) (by omega)).mpr hk), hC.r1207, lr_some hC.k52, c_get hRe.1 hk, cl_some]
    show lr _ _ _ _ = _
    rw [lr_some k1, k4]
  · rw [if_neg (fun z => c1 ((in_n (by omega) _).mp z)), if_pos rfl]
    have rr : OPR x o M W (F_X11_wrong_p15 M x) (cl (F_X12_refuseLong W o (-1)) fun M3 r4 => some (M3, r4)) := opr_map id (opr_refuseL h rf1 (by omega) (by omega)) (fun _ _ => rfl) (fun _ _ => rfl)
    by_cases c2 : a < 0
    · rw [if_pos c2]
      exact rr
    · rw [if_neg c2]
      dsimp only
      rw [hRe.1.2.1, if_neg]
      · exact rr
      · intro c3
        rw [Int32.lt_iff_toInt_lt, ofN_toInt (by omega)] at c3
        rw [Int32.lt_iff_toInt_lt, z0] at c2
        exact c1 ⟨by omega, by omega⟩
theorem op_untable {x o : Nat} {M W : Mem} (h : Rel x o M W) : OPR x o M W (F_X11_untable M x) (F_X12_untable W o) := by
  obtain ⟨ha, ua, ba, ma, ea, ra, rb, tg, hr, hR⟩ := h
  have hC := hR.csh
  have hI := hR.mi
  have hT := hR.tar
  have hW : WM o W (sI W 1322 o 0) (fun f => f = 1322) (fun j => j = 19 ∨ j = 20) (fun _ => False) := ⟨rfl, rfl, rfl, rfl, rfl, rfl, rfl, rfl, fun f z => if_neg (fun k => z k.1), fun _ _ => rfl, fun _ _ => rfl⟩
  have e0 : gI (sI W 1322 o 0) 1322 o = 0 := by rw [gI_sI, if_pos ⟨rfl, rfl⟩]
  have en : npW (sI W 1322 o 0) o = 0 := by
    unfold npW
    rw [e0]
    decide
  refine opr_of (M1 := sI M 802 (x + 6) 0) (W1 := sI W 1322 o 0) (r := gI W 1322 o) ?_ (bnd_i (bnd_i rfl)) (upd_table hR ⟨Nat.le_refl _, rfl, fun a1 _ => ⟨rfl, rfl, fun f z => if_neg z, fun _ _ => rfl, fun _ _ => rfl, fun _ => rfl, fun _ => rfl, fun _ => rfl⟩⟩ hW rfl rfl ?_ ?_) rfl rfl rfl rfl
  · unfold F_X11_untable
    rw [hC.r1201, lr_some hC.k6]
    refine bnd_i ?_
    rw [lr_some hC.k6]
    refine bnd_i ?_
    rw [hT.1]
  · refine mi_table hI hW ?_ ?_ ?_
    · rw [en, e0]
      exact ⟨rfl, by omega⟩
    · rw [en]
      intro k hk
      omega
    · rw [en]
      intro k hk
      omega
  · refine ⟨?_, hT.2.1, hT.2.2⟩
    rw [e0, gI_sI, if_pos ⟨rfl, rfl⟩]
theorem op_tank {x o : Nat} {M W : Mem} (h : Rel x o M W) (u v : Int32) : OPR x o M W (F_X11_tank M x u v) (F_X12_tank W o u v) := by
  have r4 : OPR x o M W (F_X11_tank_p9 M x) (F_X12_tank_p9 W o) := opr_map id (opr_refuse h rf4 (by omega) (by omega)) (fun _ _ => rfl) (fun _ _ => rfl)
  have r6 : OPR x o M W (F_X11_tank_p29 M x) (F_X12_tank_p29 W o) := opr_map id (opr_refuse h rf6 (by omega) (by omega)) (fun _ _ => rfl) (fun _ _ => rfl)
  unfold F_X11_tank F_X12_tank
  by_cases c1 : u < 0
  · rw [if_pos c1, if_pos c1]
    exact r4
  · rw [if_neg c1, if_neg c1]
    by_cases c2 : (1 : Int32) ≤ v
    · rw [if_pos c2, if_pos c2]
      by_cases c3 : (9 : Int32) < u
      · rw [if_pos c3, if_pos c3]
        exact r6
      · rw [if_neg c3, if_neg c3]
        by_cases c4 : v ≤ (9999 : Int32)
        · rw [if_pos c4, if_pos c4]
          obtain ⟨ha, ua, ba, ma, ea, ra, rb, tg, hr, hR⟩ := h
          have hC := hR.csh
          have hI := hR.mi
          have hT := hR.2.2.2.1
          have z0 : (0 : Int32).toInt = 0 := by decide
          have z9 : (9 : Int32).toInt = 9 := by decide
          have z1 : (1 : Int32).toInt = 1 := by decide
          have z2 : (9999 : Int32).toInt = 9999 := by decide
          rw [Int32.lt_iff_toInt_lt] at c1 c3
          have c2 := i32_le.mp c2
          have c4 := i32_le.mp c4
          obtain ⟨cr, hcr, rfl⟩ := isB_of (n := 10) (b := u) ⟨by omega, by omega⟩
          have hW : WM o W (sI (sI W 1334 o (Int32.ofNat cr)) 1335 o v) (fun f => f = 1334 ∨ f = 1335) (fun _ => False) (fun _ => False) := by
            refine ⟨rfl, rfl, rfl, rfl, rfl, rfl, rfl, rfl, fun f z => ?_, fun _ _ => rfl, fun _ _ => rfl⟩
            rw [gI_nf (by omega), gI_nf (by omega)]
          refine opr_of (M1 := sI (sI M 900 (x + 16) (Int32.ofNat cr)) 901 (x + 16) v) (W1 := sI (sI W 1334 o (Int32.ofNat cr)) 1335 o v) (r := gI W 1334 o) ?_ (bnd_i (bnd_i (bnd_i rfl))) (upd_tank hR ⟨Nat.le_refl _, rfl, fun a1 _ => ⟨rfl, rfl, fun f z => ?_, fun _ _ => rfl, fun _ _ => rfl, fun _ => rfl, fun _ => rfl, fun _ => rfl⟩⟩ hW rfl rfl ?_ ?_) rfl rfl rfl rfl
          · rw [hC.r1204, lr_some hC.k16]
            refine bnd_i ?_
            rw [lr_some hC.k16]
            refine bnd_i ?_
            show lr (gR M 1204 x) (gK M) 10 _ = _
            rw [hC.r1204, lr_some hC.k16]
            refine bnd_i ?_
            rw [hT.1]
          · rw [gI_sI, if_neg (fun k => z ⟨by omega, k.2⟩), gI_sI, if_neg (fun k => z ⟨by omega, k.2⟩)]
          · refine ⟨⟨cr, ?_, by omega⟩, ?_⟩
            · rw [gI_nf (by omega), gI_sI, if_pos ⟨rfl, rfl⟩]
            · rw [gI_sI, if_pos ⟨rfl, rfl⟩]
              exact ⟨by omega, by omega⟩
          · refine ⟨?_, ?_, hT.2.2⟩
            · rw [gI_nf (by omega), gI_sI, if_pos ⟨rfl, rfl⟩, gI_nf (by omega), gI_sI, if_pos ⟨rfl, rfl⟩]
            · rw [gI_sI, if_pos ⟨rfl, rfl⟩, gI_sI, if_pos ⟨rfl, rfl⟩]
        · rw [if_neg c4, if_neg c4]
          exact r6
    · rw [if_neg c2, if_neg c2]
      exact r4
