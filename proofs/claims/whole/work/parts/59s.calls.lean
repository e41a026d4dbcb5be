theorem bore_cases {x o : Nat} {M W : Mem} {ρ : Type} {rc rm : Option (Mem × ρ)} (b : Int32) (hyes : ∀ ha ua ba ma ea ra rb tg hr, REL x o M W ha ua ba ma ea ra rb tg hr → ∀ i, i < nbW W o → b = Int32.ofNat i → F_X1_find M (x + 46) b = some (M, some (ba i)) → F_X12_isBore W o b = some (W, 1) → OPR x o M W rc rm) (hno : gR M 1205 x = some (x + 46) → gK M (x + 46) = 3 → F_X1_find M (x + 46) b = some (M, none) → F_X12_isBore W o b = some (W, 0) → OPR x o M W rc rm) (h : Rel x o M W) : OPR x o M W rc rm := by
  obtain ⟨ha, ua, ba, ma, ea, ra, rb, tg, hr, hR⟩ := h
  have hI := hR.mi
  have hC := hR.csh
  have e := m_isBore hI.nb hI.nb8 b
  by_cases c1 : isB (nbW W o) b
  · rw [if_pos c1] at e
    obtain ⟨i, hi, rfl⟩ := isB_of c1
    exact hyes ha ua ba ma ea ra rb tg hr hR i hi rfl (c_find hC.g46 hI hR.bos hi) e
  · rw [if_neg c1] at e
    exact hno hC.r1205 hC.k46 (c_find_no hC.g46 hI hR.bos c1) e
theorem one_nz : ¬ (1 : Int32) = 0 := by decide
theorem op_given {x o : Nat} {M W : Mem} (h : Rel x o M W) (b : Int32) : OPR x o M W (F_X11_given M x b) (F_X12_given W o b) := by
  refine bore_cases b ?_ ?_ h
  · intro ha ua ba ma ea ra rb tg hr hR i hi e1 f1 f2
    have hI := hR.mi
    have hS := hI.sh
    have h8 := hI.nb8
    have i1 : inb (Int32.ofNat i) 8 := ofN_inb (by omega) (by omega)
    have i2 : ixn (Int32.ofNat i) = i := ofN_ix (by omega)
    refine opr_same (r := gB W (o + 12) i) h ?_ ?_
    · unfold F_X11_given F_X11_given_p25
      rw [hR.csh.r1205, lr_some hR.csh.k46, f1, cl_some]
      show grd _ _ = _
      rw [grd_pos (hR.bos.2.2.2 i hi).1, hR.dr.2.2.2.2.1 i hi]
    · unfold F_X12_given F_X12_given_p22
      rw [f2, cl_some, if_neg (show ¬ (1 : Int32) = 0 by decide), hS.r1314, lr_some hS.k12, hS.n12, e1, grd_pos i1, i2]
  · intro f3 f4 f1 f2
    unfold F_X11_given F_X12_given F_X11_given_p25 F_X12_given_p22
    rw [f3, lr_some f4, f1, f2, cl_some, cl_some, if_pos rfl]
    exact opr_map id (opr_refuseL h rf1 (by omega) (by omega)) (fun _ _ => rfl) (fun _ _ => rfl)
theorem op_frozen {x o : Nat} {M W : Mem} (h : Rel x o M W) (b : Int32) : OPR x o M W (F_X11_frozen M x b) (F_X12_frozen W o b) := by
  refine bore_cases b ?_ ?_ h
  · intro ha ua ba ma ea ra rb tg hr hR i hi e1 f1 f2
    have hI := hR.mi
    have hS := hI.sh
    have h8 := hI.nb8
    have h1 := hI.rg1 hi
    have hb := hR.bos.2.2.2 i hi
    have hz := c_isFrozen (M := M) (a := ba i) hb.2.2.2.2.2.1 (hb.2.2.2.2.2.2.2.2 0 (by omega)).1
    rw [hR.dr.2.2.1 i 0 hi (by omega)] at hz
    have hw : F_X12_warmthOf W o b 0 = some (W, wS W o (gB W (o + 11)) i 0) := by
      rw [e1]
      exact m_warmthOf (k := 0) hS (by omega) (by omega) (hI.hold hi (by omega))
    refine opr_same (r := if wS W o (gB W (o + 11)) i 0 ≤ 0 then 1 else 0) h ?_ ?_
    · unfold F_X11_frozen F_X11_frozen_p31
      rw [hR.csh.r1205, lr_some hR.csh.k46, f1, cl_some]
      show grd _ _ = _
      rw [grd_pos hb.1]
      dsimp only
      rw [hz, cl_some]
      by_cases c : wS W o (gB W (o + 11)) i 0 ≤ 0
      · rw [if_pos c, if_neg one_nz]
      · rw [if_neg c, if_pos rfl]
    · unfold F_X12_frozen F_X12_frozen_p32
      rw [f2, cl_some, if_neg (show ¬ (1 : Int32) = 0 by decide)]
      dsimp only
      rw [hw, cl_some]
      by_cases c : wS W o (gB W (o + 11)) i 0 ≤ 0
      · rw [if_pos ((lg_cmp_le _ _).mpr c), if_pos c]
      · rw [if_neg (fun k => c ((lg_cmp_le _ _).mp k)), if_neg c]
  · intro f3 f4 f1 f2
    unfold F_X11_frozen F_X12_frozen F_X12_frozen_p32
    rw [f3, lr_some f4, f1, f2, cl_some, cl_some, if_pos rfl]
    exact opr_map id (opr_refuse h rf1 (by omega) (by omega)) (fun _ _ => rfl) (fun _ _ => rfl)
theorem op_open {x o : Nat} {M W : Mem} (h : Rel x o M W) (b : Int32) {v : Int32} (hv : v = 0 ∨ v = 1) : OPR x o M W (F_X11_open M x b v) (F_X12_open W o b v) := by
  refine bore_cases b ?_ ?_ h
  · intro ha ua ba ma ea ra rb tg hr hR i hi e1 f1 f2
    have hI := hR.mi
    have hS := hI.sh
    have h8 := hI.nb8
    have hb := hR.bos.2.2.2 i hi
    have hB := hR.boh
    have i1 : inb (Int32.ofNat i) 8 := ofN_inb (by omega) (by omega)
    have i2 : ixn (Int32.ofNat i) = i := ofN_ix (by omega)
    unfold F_X11_open F_X12_open
    rw [hR.csh.r1205, lr_some hR.csh.k46, f1, f2, cl_some, cl_some, if_neg (show ¬ (1 : Int32) = 0 by decide), e1]
    show OPR x o M W (grd _ _) _
    rw [grd_pos hb.1]
    dsimp only
    rw [(hB.2 i hi).2.2, hS.r1311, lr_some hS.k10, hS.n10, grd_pos i1, i2]
    by_cases c : gA W (o + 10) i = v
    · rw [if_pos c, if_pos c]
      exact opr_same h rfl rfl
    · rw [if_neg c, if_neg c, grd_pos hv, lr_some hS.k10, hS.n10, grd_pos ⟨i1, hv⟩]
      refine opr_of (M1 := sI M 109 (ba i) v) (W1 := sA W (o + 10) i v) (r := 1) (bnd_i rfl) (bnd_i rfl) (upd_open (c := i) hR ⟨Nat.le_refl _, rfl, fun a1 _ => ⟨rfl, rfl, fun f z => if_neg z, fun _ _ => rfl, fun _ _ => rfl, fun _ => rfl, fun _ => rfl, fun _ => rfl⟩⟩ ⟨rfl, rfl, rfl, rfl, rfl, rfl, rfl, rfl, fun _ _ => rfl, fun j z => gA_nf (by omega), fun _ _ => rfl⟩ rfl rfl ?_ ?_) rfl rfl rfl rfl
      · refine hI.congr (hS.to rfl rfl rfl rfl) ⟨rfl, rfl, rfl, rfl, rfl, fun j z1 z2 z3 z4 => gA_nf (by omega)⟩ (fun b hb => ?_)
        rw [gA_sf]
        unfold ud
        by_cases c2 : b = i
        · rw [if_pos c2]
          exact hv
        · rw [if_neg c2]
          exact hI.op hb
      · refine ⟨?_, fun b hb => ?_⟩
        · rw [gI_nf (by omega)]
          exact hB.1
        · have hbb := hB.2 b hb
          rw [gI_nf (by omega), gI_nf (by omega), gI_sf, gA_nf (by omega), gA_nf (by omega), gA_sf]
          refine ⟨hbb.1, hbb.2.1, ?_⟩
          unfold ud
          by_cases c2 : b = i
          · rw [if_pos c2, if_pos (by rw [c2])]
          · rw [if_neg c2, if_neg (fun z => c2 (hR.bos.2.2.1 _ _ hb hi z))]
            exact hbb.2.2
  · intro f3 f4 f1 f2
    unfold F_X11_open F_X12_open
    rw [f3, lr_some f4, f1, f2, cl_some, cl_some, if_pos rfl]
    exact opr_map id (opr_refuse h rf1 (by omega) (by omega)) (fun _ _ => rfl) (fun _ _ => rfl)
theorem op_soil {x o : Nat} {M W : Mem} (h : Rel x o M W) (b u v : Int32) : OPR x o M W (F_X11_soil M x b u v) (F_X12_soil W o b u v) := by
  have r4 : OPR x o M W (F_X11_soil_p29 M x) (F_X12_soil_p22 W o) := opr_map id (opr_refuse h rf4 (by omega) (by omega)) (fun _ _ => rfl) (fun _ _ => rfl)
  have r6 : OPR x o M W (F_X11_soil_p49 M x) (F_X12_soil_p42 W o) := opr_map id (opr_refuse h rf6 (by omega) (by omega)) (fun _ _ => rfl) (fun _ _ => rfl)
  refine bore_cases b ?_ ?_ h
  · intro ha ua ba ma ea ra rb tg hr hR i hi e1 f1 f2
    have hI := hR.mi
    have hS := hI.sh
    have h8 := hI.nb8
    have hb := hR.bos.2.2.2 i hi
    have hB := hR.boh
    have i1 : inb (Int32.ofNat i) 8 := ofN_inb (by omega) (by omega)
    have i2 : ixn (Int32.ofNat i) = i := ofN_ix (by omega)
    unfold F_X11_soil F_X12_soil
    rw [hR.csh.r1205, lr_some hR.csh.k46, f1, f2, cl_some, cl_some, if_neg (show ¬ (1 : Int32) = 0 by decide), e1]
    show OPR x o M W (if u < 0 then _ else _) _
    dsimp only
    by_cases c1 : u < 0
    · rw [if_pos c1, if_pos c1]
      exact r4
    · rw [if_neg c1, if_neg c1]
      by_cases c2 : 0 ≤ v
      · rw [if_pos c2, if_pos c2]
        by_cases c3 : (999 : Int32) < u
        · rw [if_pos c3, if_pos c3]
          exact r6
        · rw [if_neg c3, if_neg c3]
          by_cases c4 : v ≤ (100 : Int32)
          · rw [if_pos c4, if_pos c4, grd_pos hb.1, hS.r1309, lr_some hS.k8, hS.n8, grd_pos i1, i2]
            have z0 : (0 : Int32).toInt = 0 := by decide
            have z9 : (999 : Int32).toInt = 999 := by decide
            have z1 : (100 : Int32).toInt = 100 := by decide
            rw [Int32.lt_iff_toInt_lt] at c1 c3
            have c2 := i32_le.mp c2
            have c4 := i32_le.mp c4
            have hW : WM o W (sA (sA W (o + 8) i u) (o + 9) i v) (fun _ => False) (fun j => j = 8 ∨ j = 9) (fun _ => False) := by
              refine ⟨rfl, rfl, rfl, rfl, rfl, rfl, rfl, rfl, fun _ _ => rfl, fun j z => ?_, fun _ _ => rfl⟩
              rw [gA_nf (by omega), gA_nf (by omega)]
            refine opr_of (M1 := sI (sI M 107 (ba i) u) 108 (ba i) v) (W1 := sA (sA W (o + 8) i u) (o + 9) i v) (r := gA W (o + 8) i) ?_ ?_ (upd_soil (c := i) hR ⟨Nat.le_refl _, rfl, fun a1 _ => ⟨rfl, rfl, fun f z => ?_, fun _ _ => rfl, fun _ _ => rfl, fun _ => rfl, fun _ => rfl, fun _ => rfl⟩⟩ hW rfl rfl ?_ ?_ ?_) rfl rfl rfl rfl
            · refine bnd_i (bnd_i (bnd_i ?_))
              rw [(hB.2 i hi).1]
            · refine bnd_i ?_
              rw [lr_some hS.k8, hS.n8, grd_pos i1]
              refine bnd_i ?_
              show lr (gR W 1310 o) (gK W) 20 _ = _
              rw [hS.r1310, lr_some hS.k9]
              show grd (inb _ (gN W (o + 9))) _ = _
              rw [hS.n9, grd_pos i1]
              exact bnd_i rfl
            · rw [gI_sI, if_neg (fun k => z (by omega)), gI_sI, if_neg (fun k => z (by omega))]
            · refine mi_soil hI hW ?_
              · intro b hb2
                have q := hI.bo (b := b) hb2
                rw [gA_nf (by omega), gA_nf (by omega), gA_nf (by omega), gA_nf (by omega), gA_nf (by omega), gA_nf (by omega), gA_nf (show ¬ o + 8 = o + 9 by omega), gA_sf, gA_sf, gA_nf (show ¬ o + 9 = o + 8 by omega), gA_nf (by omega), gA_nf (by omega), gA_nf (by omega), gA_nf (by omega)]
                refine ⟨q.1, q.2.1, q.2.2.1, ?_, ?_, q.2.2.2.2.2.1, q.2.2.2.2.2.2⟩
                · unfold ud
                  by_cases c : b = i
                  · rw [if_pos c]
                    exact ⟨by omega, by omega⟩
                  · rw [if_neg c]
                    exact q.2.2.2.1
                · unfold ud
                  by_cases c : b = i
                  · rw [if_pos c]
                    exact ⟨by omega, by omega⟩
                  · rw [if_neg c]
                    exact q.2.2.2.2.1
            · refine ⟨?_, fun b hb => ?_⟩
              · rw [gI_nf (by omega), gI_nf (by omega)]
                exact hB.1
              · have hbb := hB.2 b hb
                rw [gI_nf (show ¬ 107 = 108 by omega), gI_sf, gI_sf, gI_nf (show ¬ 108 = 107 by omega), gI_nf (by omega), gI_nf (by omega), gA_nf (show ¬ o + 8 = o + 9 by omega), gA_sf, gA_sf, gA_nf (show ¬ o + 9 = o + 8 by omega), gA_nf (by omega), gA_nf (by omega)]
                unfold ud
                by_cases c2 : b = i
                · rw [if_pos c2, if_pos (by rw [c2]), if_pos (by rw [c2]), if_pos c2]
                  exact ⟨rfl, rfl, hbb.2.2⟩
                · rw [if_neg c2, if_neg c2, if_neg (fun z => c2 (hR.bos.2.2.1 _ _ hb hi z)), if_neg (fun z => c2 (hR.bos.2.2.1 _ _ hb hi z))]
                  exact hbb
            · intro b hb1 hb2
              have q := hR.2.1.2.2.2.2.2.2.2.2 b hb1 hb2
              have hb1 : nbW W o ≤ b := hb1
              rw [gA_nf (show ¬ o + 8 = o + 9 by omega), gA_sf, gA_sf, gA_nf (show ¬ o + 9 = o + 8 by omega), ud_n _ (by omega), ud_n _ (by omega)]
              exact q
          · rw [if_neg c4, if_neg c4]
            exact r6
      · rw [if_neg c2, if_neg c2]
        exact r4
  · intro f3 f4 f1 f2
    unfold F_X11_soil F_X12_soil
    rw [f3, lr_some f4, f1, f2, cl_some, cl_some, if_pos rfl]
    exact opr_map id (opr_refuse h rf1 (by omega) (by omega)) (fun _ _ => rfl) (fun _ _ => rfl)
