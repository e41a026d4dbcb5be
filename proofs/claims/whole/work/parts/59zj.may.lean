theorem fm_scr {M : Mem} {x : Nat} (l s : Nat → Int64) : FM M (PM M x (x + 46) (gJ M 502) (gJ M 503) (gJ M 504) (gJ M 110) (gB M (x + 46 + 2)) l s) (fun f _ => f = 1210) (fun f _ => f = 1209) (fun _ _ => False) (fun _ => False) (fun a => a = x + 11 ∨ a = x + 12) (fun _ => False) := by
  refine ⟨Nat.le_refl _, rfl, fun a _ => ⟨rfl, rfl, fun _ _ => rfl, fun f _ => ?_, fun _ _ => rfl, fun _ => rfl, fun z => ?_, fun _ => rfl⟩⟩
  · rw [gJ_PM]
    by_cases c2 : f = 502
    · rw [if_pos c2, c2]
    · rw [if_neg c2]
      by_cases c3 : f = 503
      · rw [if_pos c3, c3]
      · rw [if_neg c3]
        by_cases c4 : f = 504
        · rw [if_pos c4, c4]
        · rw [if_neg c4]
          by_cases c5 : f = 110
          · rw [if_pos c5, c5]
          · rw [if_neg c5]
  · rw [gB_PM, if_neg (fun k => z (Or.inl k)), if_neg (fun k => z (Or.inr k))]
    by_cases c : a = x + 46 + 2
    · rw [if_pos c, c]
    · rw [if_neg c]
theorem wm_hm {o : Nat} {W : Mem} {q : Nat → Nat → Int64} (hq : ∀ a, a ≠ o + 32 → a ≠ o + 33 → q a = gB W a) : WM o W (HM o W (gB W (o + 11)) (gB W (o + 12)) (gB W (o + 13)) q) (fun f => f = 1355) (fun j => 32 ≤ j) (fun j => 32 ≤ j) := by
  refine ⟨rfl, rfl, rfl, rfl, rfl, rfl, rfl, rfl, fun _ _ => rfl, fun _ _ => rfl, fun j z => ?_⟩
  rw [gB_HM]
  by_cases c1 : o + j = o + 11
  · rw [if_pos c1, c1]
  · rw [if_neg c1]
    by_cases c2 : o + j = o + 12
    · rw [if_pos c2, c2]
    · rw [if_neg c2]
      by_cases c3 : o + j = o + 13
      · rw [if_pos c3, c3]
      · rw [if_neg c3]
        by_cases c4 : o + 32 ≤ o + j ∧ o + j ≤ o + 38
        · omega
        · rw [if_neg c4]
theorem op_may {x o : Nat} {M W : Mem} (h : Rel x o M W) (b p : Int32) : OPR x o M W (F_X11_may M x b p) (F_X12_may W o b p) := by
  refine bore_cases b ?_ ?_ h
  · intro ha ua ba ma ea ra rb tg hr hR i hi e1 f1 f2
    have hC := hR.csh
    have hI := hR.mi
    have hh := hR.2.1.1
    have hh2 := hh.2
    have h1 := hI.rg1 hi
    obtain ⟨b1, b2, b3, b4, b5, b6, b7, -, b9⟩ := hR.bos.2.2.2 i hi
    have l0 : (0 : Int64).toInt = 0 := by decide
    have l1 : (1 : Int64).toInt = 1 := by decide
    have z0 : (0 : Int32).toInt = 0 := by decide
    have z1 : (1 : Int32).toInt = 1 := by decide
    unfold F_X11_may F_X12_may F_X12_may_p42
    rw [hC.r1205, lr_some hC.k46, f1, f2, cl_some, cl_some, if_neg (show ¬ (1 : Int32) = 0 by decide), m_in, cl_some]
    show OPR x o M W (if p = 0 then _ else _) _
    by_cases c : p = 0 ∨ p = 1
    · have run : OPR x o M W (F_X11_may_p35 M x p (ba i)) (cl (F_X12_mayOf W o b p) fun M7 r8 => some (M7, r8.toInt32)) := by
        obtain ⟨l1, t1, t2⟩ := c_tellHour (p := x + 46) hC hR.tor (hr := hr) (by omega) (gJ M 502) (gJ M 503) (gJ M 504) (gJ M 110) (gB M (x + 46 + 2)) (gB M (x + 11)) (gB M (x + 12)) (gB W (o + 11))
        rw [PM_self] at t1
        obtain ⟨l2, s2, w1, -⟩ := c_worth (φ2 := gJ M 502) (φ3 := gJ M 503) (φ4 := gJ M 504) (φg := gJ M 110) (t := gB M (x + 46 + 2)) (s := gB M (x + 12)) hC hI hR.rur (x + 46) (nok_of hI (by omega) hR.2.1.2.1 hi) p b2 b5 b6 b7 (b9 0 (by omega)).1 (b9 _ (by omega)).1 (hR.dr.2.2.1 i 0 hi (by omega)) (hR.dr.2.2.1 i _ hi (by omega)) (t2 i)
        obtain ⟨q1, m1, m2⟩ := m_mayOf hI hh.1 (by omega) (gB W (o + 11)) (gB W (o + 12)) (gB W (o + 13)) (gB W) hi p
        rw [HM_self] at m1
        refine opr_of (r := (mayS W o hr (gB W (o + 11)) p i).toInt32) ?_ ?_ (upd_scr hR (fm_scr l2 s2) (wm_hm m2) rfl rfl) rfl rfl rfl rfl
        · unfold F_X11_may_p35
          rw [hC.r1205, lr_some hC.k46, hR.dr.1]
          refine bnd_i ?_
          rw [hC.r1202, lr_some hC.k9, hC.r1200, lr_some hC.k1, lr_some hC.k1, c_needOf hC hI hR.hor hR.tor (by omega), cl_some]
          dsimp only
          rw [t1, cl_some]
          show lr (gR M 1202 x) (gK M) 8 _ = _
          rw [hC.r1202, lr_some hC.k9]
          show lr (gR M 1202 x) (gK M) 8 _ = _
          rw [hC.r1202, lr_some hC.k9]
          dsimp only
          rw [c_inForce (M := PM M x (x + 46) (gJ M 502) (gJ M 503) (gJ M 504) (gJ M 110) (gB M (x + 46 + 2)) l1 (gB M (x + 12))) hC hI hR.rur, cl_some]
          show grd (gK M (ba i) = 2) _ = _
          rw [grd_pos b1, d24 (by omega)]
          dsimp only
          rw [w1, cl_some]
        · rw [e1, m1, cl_some]
      have hin : (0 : Int64) ≤ p.toInt64 ∧ p.toInt64 ≤ 1 := by
        rw [Int64.le_iff_toInt_le, Int64.le_iff_toInt_le, Int32.toInt_toInt64, l0, l1]
        rcases c with c | c
        · rw [c, z0]
          omega
        · rw [c, z1]
          omega
      rw [if_pos hin, if_neg one_nz]
      rcases c with c | c
      · rw [if_pos c]
        exact run
      · rw [if_neg (by rw [c]; decide), if_pos c]
        exact run
    · have hin : ¬ ((0 : Int64) ≤ p.toInt64 ∧ p.toInt64 ≤ 1) := by
        rw [Int64.le_iff_toInt_le, Int64.le_iff_toInt_le, Int32.toInt_toInt64, l0, l1]
        intro k
        rcases (show p.toInt = 0 ∨ p.toInt = 1 by omega) with k1 | k1
        · exact c (Or.inl (Int32.toInt_inj.mp (by omega)))
        · exact c (Or.inr (Int32.toInt_inj.mp (by omega)))
      rw [if_neg hin, if_pos rfl, if_neg (fun k => c (Or.inl k)), if_neg (fun k => c (Or.inr k))]
      exact opr_map id (opr_refuse h rf2 (by omega) (by omega)) (fun _ _ => rfl) (fun _ _ => rfl)
  · intro f3 f4 f1 f2
    unfold F_X11_may F_X12_may F_X12_may_p42
    rw [f3, lr_some f4, f1, f2, cl_some, cl_some, if_pos rfl]
    exact opr_map id (opr_refuse h rf1 (by omega) (by omega)) (fun _ _ => rfl) (fun _ _ => rfl)
