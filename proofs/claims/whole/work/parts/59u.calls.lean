theorem c_firstOf (M : Mem) (a b : Int32) : F_X11_firstOf M a b = some (M, if a = 0 then b else a) := by
  unfold F_X11_firstOf F_X11_firstOf_p9
  by_cases c : a = 0
  · rw [if_pos c, if_pos c]
  · rw [if_neg c, if_neg c]
theorem c_replace {M : Mem} {a n i : Nat} (hn : gN M a = n) (h : n < 100000) (hi : i < n) (v : Int32) : F_X11_replace M a (Int32.ofNat i) v = some (sA M a i v, gA M a i) := by
  unfold F_X11_replace
  rw [hn, if_neg (ofN_n0 (by omega)), if_pos ((ofN_lt (by omega) (by omega)).mpr hi), grd_pos (ofN_inb (by omega) hi), ofN_ix (by omega)]
  exact bnd_i (grd_pos (ofN_inb (by omega) hi))
theorem m_barred (M : Mem) (o : Nat) (a b c : Int32) : F_X12_barred M o a b c = some (M, if 0 ≤ a then (if a ≤ 23 then (if 0 ≤ b then (if b ≤ c then 0 else -6) else -4) else -6) else -4) := by
  unfold F_X12_barred F_X12_barred_p40
  by_cases c1 : 0 ≤ a
  · rw [if_pos c1, if_pos c1]
    by_cases c2 : a ≤ 23
    · rw [if_pos c2, if_pos c2]
      by_cases c3 : 0 ≤ b
      · rw [if_pos c3, if_pos c3]
        by_cases c4 : b ≤ c
        · rw [if_pos c4, if_pos c4]
        · rw [if_neg c4, if_neg c4]
      · rw [if_neg c3, if_neg c3]
    · rw [if_neg c2, if_neg c2]
  · rw [if_neg c1, if_neg c1]
theorem row_all {r r1 : Nat → Int32} {i n : Nat} {v : Int32} (h : ∀ j, j < n → r j = r1 j) : ∀ j, j < n → ud r i v j = ud r1 i v j := by
  intro j hj
  unfold ud
  by_cases c : j = i
  · rw [if_pos c, if_pos c]
  · rw [if_neg c, if_neg c, h j hj]
theorem neg4_nz : ¬ (-4 : Int32) = 0 := by decide
theorem neg6_nz : ¬ (-6 : Int32) = 0 := by decide
section ROWS
variable {x o : Nat} {M W : Mem} {ha ua ba ma ea : Nat → Nat} {ra rb : Nat → Nat → Nat} {tg : Nat → Nat} {hr : Nat}
theorem wm_sA (j i : Nat) (v : Int32) : WM o W (sA W (o + j) i v) (fun _ => False) (fun k => k = j) (fun _ => False) := ⟨rfl, rfl, rfl, rfl, rfl, rfl, rfl, rfl, fun _ _ => rfl, fun k z => gA_nf (fun e => z (by omega)), fun _ _ => rfl⟩
theorem fm_sA (a i : Nat) (v : Int32) : FM M (sA M a i v) (fun _ _ => False) (fun _ _ => False) (fun _ _ => False) (fun b => b = a) (fun _ => False) (fun _ => False) := ⟨Nat.le_refl _, rfl, fun _ _ => ⟨rfl, rfl, fun _ _ => rfl, fun _ _ => rfl, fun _ _ => rfl, fun z => gA_nf z, fun _ => rfl, fun _ => rfl⟩⟩
theorem r_cold (hR : REL x o M W ha ua ba ma ea ra rb tg hr) {i : Nat} {v : Int32} (hv : bt v (-40) 40) : REL x o (sA M (x + 3) i v) (sA W (o + 18) i v) ha ua ba ma ea ra rb tg hr := by
  have hT := hR.tor
  refine upd_cold hR (fm_sA _ _ _) (wm_sA _ _ _) rfl rfl (mi_cold hR.mi (wm_sA _ _ _) (fun j hj => ?_)) ⟨?_, ?_, ?_⟩
  · rw [gA_sf]
    unfold ud
    by_cases c : j = i
    · rw [if_pos c]
      exact hv
    · rw [if_neg c]
      exact hR.mi.cd hj
  · rw [gA_sf, gA_sf]
    exact row_all hT.1
  · rw [gA_nf (by omega), gA_nf (by omega)]
    exact hT.2.1
  · rw [gA_nf (by omega), gA_nf (by omega)]
    exact hT.2.2
theorem r_price (hR : REL x o M W ha ua ba ma ea ra rb tg hr) {i : Nat} {v : Int32} (hv : bt v 0 999) : REL x o (sA M (x + 4) i v) (sA W (o + 21) i v) ha ua ba ma ea ra rb tg hr := by
  have hT := hR.tor
  refine upd_price hR (fm_sA _ _ _) (wm_sA _ _ _) rfl rfl (mi_price hR.mi (wm_sA _ _ _) (fun j hj => ?_)) ⟨?_, ?_, ?_⟩
  · rw [gA_sf, gA_nf (by omega)]
    refine ⟨?_, (hR.mi.pr hj).2⟩
    unfold ud
    by_cases c : j = i
    · rw [if_pos c]
      exact hv
    · rw [if_neg c]
      exact (hR.mi.pr hj).1
  · rw [gA_nf (by omega), gA_nf (by omega)]
    exact hT.1
  · rw [gA_sf, gA_sf]
    exact row_all hT.2.1
  · rw [gA_nf (by omega), gA_nf (by omega)]
    exact hT.2.2
theorem r_sun (hR : REL x o M W ha ua ba ma ea ra rb tg hr) {i : Nat} {v : Int32} (hv : bt v 0 99999) : REL x o (sA M (x + 5) i v) (sA W (o + 22) i v) ha ua ba ma ea ra rb tg hr := by
  have hT := hR.tor
  refine upd_sun hR (fm_sA _ _ _) (wm_sA _ _ _) rfl rfl (mi_sun hR.mi (wm_sA _ _ _) (fun j hj => ?_)) ⟨?_, ?_, ?_⟩
  · rw [gA_sf, gA_nf (by omega)]
    refine ⟨(hR.mi.pr hj).1, ?_⟩
    unfold ud
    by_cases c : j = i
    · rw [if_pos c]
      exact hv
    · rw [if_neg c]
      exact (hR.mi.pr hj).2
  · rw [gA_nf (by omega), gA_nf (by omega)]
    exact hT.1
  · rw [gA_nf (by omega), gA_nf (by omega)]
    exact hT.2.1
  · rw [gA_sf, gA_sf]
    exact row_all hT.2.2
end ROWS
theorem lt_nge {a : Int32} (h : ¬ (0 : Int32) ≤ a) : a < 0 := i32_nge.mp h
theorem nlt_ge {a : Int32} (h : (0 : Int32) ≤ a) : ¬ a < 0 := fun k => i32_nge.mpr k h
theorem op_price {x o : Nat} {M W : Mem} (h : Rel x o M W) (a v : Int32) : OPR x o M W (F_X11_price M x a v) (F_X12_price W o a v) := by
  have r4 := opr_map (x := x) (o := o) (M := M) (W := W) id (opr_refuse h rf4 (by omega) (by omega)) (kc := F_X11_price_p43) (km := fun M r => some (M, r)) (fun _ _ => rfl) (fun _ _ => rfl)
  have r6 := opr_map (x := x) (o := o) (M := M) (W := W) id (opr_refuse h rf6 (by omega) (by omega)) (kc := F_X11_price_p43) (km := fun M r => some (M, r)) (fun _ _ => rfl) (fun _ _ => rfl)
  unfold F_X11_price F_X12_price
  rw [c_beyond, cl_some]
  dsimp only
  rw [c_beyond, cl_some]
  dsimp only
  rw [c_firstOf, cl_some, m_barred, cl_some]
  dsimp only
  by_cases c1 : (0 : Int32) ≤ a
  · by_cases c2 : a ≤ (23 : Int32)
    · simp only [c1, c2, if_true]
      by_cases c3 : (0 : Int32) ≤ v
      · by_cases c4 : v ≤ (999 : Int32)
        · simp only [c3, c4, if_true]
          have z1 := i32_le.mp c1
          have z2 := i32_le.mp c2
          have z3 := i32_le.mp c3
          have z4 := i32_le.mp c4
          have e1 : (0 : Int32).toInt = 0 := by decide
          have e2 : (23 : Int32).toInt = 23 := by decide
          have e3 : (999 : Int32).toInt = 999 := by decide
          obtain ⟨i, hi, rfl⟩ := isB_of (n := 24) (b := a) ⟨by omega, by omega⟩
          obtain ⟨ha, ua, ba, ma, ea, ra, rb, tg, hr, hR⟩ := h
          have hC := hR.csh
          have hS := hR.mi.sh
          refine opr_of (r := gA W (o + 21) i) ?_ ?_ (r_price hR (i := i) (v := v) ⟨by omega, by omega⟩) rfl rfl rfl rfl
          · rw [hC.r1200, lr_some hC.k1, hC.r1102, lr_some hC.k4, c_replace hC.n4 (by omega) hi, hR.tor.2.1 i hi]
            rfl
          · rw [hS.r1325, lr_some hS.k21, hS.n21, grd_pos (ofN_inb (by omega) hi), ofN_ix (by omega)]
            refine bnd_i ?_
            rw [lr_some hS.k21, hS.n21, grd_pos (ofN_inb (by omega) hi)]
            exact bnd_i rfl
        · simp only [c3, c4, if_true, if_false, neg6_nz]
          exact r6
      · simp only [c3, if_true, if_false, neg4_nz]
        exact r4
    · simp only [c1, c2, if_true, if_false, neg6_nz]
      exact r6
  · simp only [c1, if_false, neg4_nz]
    exact r4
theorem op_sun {x o : Nat} {M W : Mem} (h : Rel x o M W) (a v : Int32) : OPR x o M W (F_X11_sun M x a v) (F_X12_sun W o a v) := by
  have r4 := opr_map (x := x) (o := o) (M := M) (W := W) id (opr_refuse h rf4 (by omega) (by omega)) (kc := F_X11_sun_p42) (km := fun M r => some (M, r)) (fun _ _ => rfl) (fun _ _ => rfl)
  have r6 := opr_map (x := x) (o := o) (M := M) (W := W) id (opr_refuse h rf6 (by omega) (by omega)) (kc := F_X11_sun_p42) (km := fun M r => some (M, r)) (fun _ _ => rfl) (fun _ _ => rfl)
  unfold F_X11_sun F_X12_sun
  rw [c_beyond, cl_some]
  dsimp only
  rw [c_beyond, cl_some]
  dsimp only
  rw [c_firstOf, cl_some, m_barred, cl_some]
  dsimp only
  by_cases c1 : (0 : Int32) ≤ a
  · by_cases c2 : a ≤ (23 : Int32)
    · simp only [c1, c2, if_true]
      by_cases c3 : (0 : Int32) ≤ v
      · by_cases c4 : v ≤ (99999 : Int32)
        · simp only [c3, c4, if_true]
          have z1 := i32_le.mp c1
          have z2 := i32_le.mp c2
          have z3 := i32_le.mp c3
          have z4 := i32_le.mp c4
          have e1 : (0 : Int32).toInt = 0 := by decide
          have e2 : (23 : Int32).toInt = 23 := by decide
          have e3 : (99999 : Int32).toInt = 99999 := by decide
          obtain ⟨i, hi, rfl⟩ := isB_of (n := 24) (b := a) ⟨by omega, by omega⟩
          obtain ⟨ha, ua, ba, ma, ea, ra, rb, tg, hr, hR⟩ := h
          have hC := hR.csh
          have hS := hR.mi.sh
          refine opr_of (r := gA W (o + 22) i) ?_ ?_ (r_sun hR (i := i) (v := v) ⟨by omega, by omega⟩) rfl rfl rfl rfl
          · rw [hC.r1200, lr_some hC.k1, hC.r1103, lr_some hC.k5, c_replace hC.n5 (by omega) hi, hR.tor.2.2 i hi]
            rfl
          · rw [hS.r1326, lr_some hS.k22, hS.n22, grd_pos (ofN_inb (by omega) hi), ofN_ix (by omega)]
            refine bnd_i ?_
            rw [lr_some hS.k22, hS.n22, grd_pos (ofN_inb (by omega) hi)]
            exact bnd_i rfl
        · simp only [c3, c4, if_true, if_false, neg6_nz]
          exact r6
      · simp only [c3, if_true, if_false, neg4_nz]
        exact r4
    · simp only [c1, c2, if_true, if_false, neg6_nz]
      exact r6
  · simp only [c1, if_false, neg4_nz]
    exact r4
theorem op_cold {x o : Nat} {M W : Mem} (h : Rel x o M W) (a v : Int32) : OPR x o M W (F_X11_cold M x a v) (F_X12_cold W o a v) := by
  have r4 : ∀ z : Int32, OPR x o M W (cl (F_X11_refuse M x (-4)) fun M r => some (M, z - r)) (cl (F_X12_refuse W o (-4)) fun M r => some (M, z - r)) := fun z => opr_map (fun r => z - r) (opr_refuse h rf4 (by omega) (by omega)) (fun _ _ => rfl) (fun _ _ => rfl)
  have r6 : ∀ z : Int32, OPR x o M W (cl (F_X11_refuse M x (-6)) fun M r => some (M, z - r)) (cl (F_X12_refuse W o (-6)) fun M r => some (M, z - r)) := fun z => opr_map (fun r => z - r) (opr_refuse h rf6 (by omega) (by omega)) (fun _ _ => rfl) (fun _ _ => rfl)
  unfold F_X11_cold F_X12_cold F_X12_cold_p10 F_X12_cold_p41 F_X12_cold_p24 F_X12_cold_p57
  rw [c_beyond, cl_some]
  dsimp only
  rw [c_beyond, cl_some]
  dsimp only
  rw [c_firstOf, cl_some]
  dsimp only
  by_cases c1 : (0 : Int32) ≤ a
  · have d1 := nlt_ge c1
    by_cases c2 : a ≤ (11 : Int32)
    · simp only [c1, d1, c2, if_true, if_false]
      by_cases c3 : (-40 : Int32) ≤ v
      · have d3 : ¬ v < (-40 : Int32) := fun k => i32_nge.mpr k c3
        by_cases c4 : v ≤ (40 : Int32)
        · simp only [c3, d3, c4, if_true, if_false]
          have z1 := i32_le.mp c1
          have z2 := i32_le.mp c2
          have z3 := i32_le.mp c3
          have z4 := i32_le.mp c4
          have e1 : (0 : Int32).toInt = 0 := by decide
          have e2 : (11 : Int32).toInt = 11 := by decide
          have e3 : (-40 : Int32).toInt = -40 := by decide
          have e4 : (40 : Int32).toInt = 40 := by decide
          obtain ⟨i, hi, rfl⟩ := isB_of (n := 12) (b := a) ⟨by omega, by omega⟩
          obtain ⟨ha, ua, ba, ma, ea, ra, rb, tg, hr, hR⟩ := h
          have hC := hR.csh
          have hS := hR.mi.sh
          refine opr_of (r := gA W (o + 18) i) ?_ ?_ (r_cold hR (i := i) (v := v) ⟨by omega, by omega⟩) rfl rfl rfl rfl
          · rw [hC.r1200, lr_some hC.k1, hC.r1101, lr_some hC.k3, c_replace hC.n3 (by omega) hi, hR.tor.1 i hi]
            rfl
          · rw [hS.r1321, lr_some hS.k18, hS.n18, grd_pos (ofN_inb (by omega) hi), ofN_ix (by omega)]
            refine bnd_i ?_
            rw [lr_some hS.k18, hS.n18, grd_pos (ofN_inb (by omega) hi)]
            exact bnd_i rfl
        · simp only [c3, d3, c4, if_true, if_false, neg6_nz]
          exact r6 _
      · have d3 : v < (-40 : Int32) := i32_nge.mp c3
        simp only [c3, d3, if_true, if_false, neg4_nz]
        exact r4 _
    · simp only [c1, d1, c2, if_true, if_false, neg6_nz]
      exact r6 _
  · have d1 := lt_nge c1
    simp only [c1, d1, if_true, if_false, neg4_nz]
    exact r4 _
