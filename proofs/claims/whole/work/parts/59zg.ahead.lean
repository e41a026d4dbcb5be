theorem m_bars (M : Mem) (o : Nat) (a c : Int32) : F_X12_bars M o a c = some (M, if (1 : Int32) ≤ a then (if a ≤ c then 0 else -6) else -4) := by
  unfold F_X12_bars F_X12_bars_p21
  by_cases h1 : (1 : Int32) ≤ a
  · rw [if_pos h1, if_pos h1]
    by_cases h2 : a ≤ c
    · rw [if_pos h2, if_pos h2]
    · rw [if_neg h2, if_neg h2]
  · rw [if_neg h1, if_neg h1]
theorem lt_not_le {a b : Int32} (h : ¬ a < b) : b ≤ a := by
  rw [Int32.lt_iff_toInt_lt] at h
  rw [Int32.le_iff_toInt_le]
  omega
theorem r_aheadRun {x o : Nat} {M W : Mem} {ha ua ba ma ea : Nat → Nat} {ra rb : Nat → Nat → Nat} {tg : Nat → Nat} {hr : Nat} (hR : REL x o M W ha ua ba ma ea ra rb tg hr) {n : Nat} (h1 : 1 ≤ n) (hn : n ≤ 500) (s what : Int32) (hw : what = 2 ∨ (1 ≤ nbW W o ∧ (what = 0 ∨ what = 1))) : OPR x o M W (F_X11_ahead_p89 M x (Int32.ofNat n) s what) (F_X12_ahead_p82 W o (Int32.ofNat n) s what) := by
  have hI := hR.mi
  have h8 := hI.nb8
  have e1 := hR.2.1.1
  have hop : ∀ b, b < 8 → cpR (nbW W o) (shO W o s) (gA W (o + 10)) b = 0 ∨ cpR (nbW W o) (shO W o s) (gA W (o + 10)) b = 1 := by
    intro b hb
    unfold cpR
    by_cases c : b < nbW W o
    · rw [if_pos c]
      exact shO_01 hI s hb
    · rw [if_neg c]
      exact hI.op hb
  obtain ⟨M1, p1, p2⟩ := c_aheadRun (op := cpR (nbW W o) (shO W o s) (gA W (o + 10))) hop s (fun b hb => by
    rw [cpR_lt hb]
    rfl) hR.1 hR.2.1.2.1 (n := n) (by have := e1.2; omega) what
  obtain ⟨W1, q1, q2⟩ := m_aheadRun hI (hr := hr) ⟨e1.1, rfl, rfl, rfl⟩ (n := n) (by have := e1.2; omega) s what
  refine opr_mind hR p2 q2 p1 ?_
  rw [q1]
  generalize hv : vS W o (cpR (nbW W o) (shO W o s) (gA W (o + 10))) hr (gB W (o + 11)) (gB W (o + 12)) (gB W (o + 13)) = v
  unfold ahM ahS
  rcases hw with rfl | ⟨hb, rfl | rfl⟩
  · rw [if_neg (show ¬ (2 : Int32) = 0 by decide), if_neg (show ¬ (2 : Int32) = 1 by decide), if_pos rfl]
  · have hc := (cold_eq (v := v) (nb := nbW W o) (hr := hr) hb (fun k => by
      rw [← hv]
      exact wS_lt (WO_mi hI hop) _ hb) n).2
    rw [if_pos rfl, if_neg (show ¬ (0 : Int32) = 2 by decide), if_pos rfl]
    rcases hc with hc | hc
    · omega
    · rw [hc.1]
  · have hc := (cold_eq (v := v) (nb := nbW W o) (hr := hr) hb (fun k => by
      rw [← hv]
      exact wS_lt (WO_mi hI hop) _ hb) n).2
    rw [if_neg (show ¬ (1 : Int32) = 0 by decide), if_pos rfl, if_neg (show ¬ (1 : Int32) = 2 by decide), if_neg (show ¬ (1 : Int32) = 0 by decide)]
    rcases hc with hc | hc
    · omega
    · rw [hc.2]
theorem op_ahead {x o : Nat} {M W : Mem} (h : Rel x o M W) (a s w : Int32) : OPR x o M W (F_X11_ahead M x a s w) (F_X12_ahead W o a s w) := by
  have r1 : OPR x o M W (F_X11_ahead_p20 M x) (F_X12_ahead_p14 W o) := opr_map id (opr_refuseL h rf1 (by omega) (by omega)) (fun _ _ => rfl) (fun _ _ => rfl)
  have r2 : OPR x o M W (F_X11_ahead_p35 M x) (cl (F_X12_refuseLong W o (-2)) fun M r => some (M, r)) := opr_map id (opr_refuseL h rf2 (by omega) (by omega)) (fun _ _ => rfl) (fun _ _ => rfl)
  have r3 : OPR x o M W (cl (F_X11_refuseLong M x (-3)) fun M r => some (M, r)) (cl (F_X12_refuseLong W o (-3)) fun M r => some (M, r)) := opr_map id (opr_refuseL h rf3 (by omega) (by omega)) (fun _ _ => rfl) (fun _ _ => rfl)
  have r4 : OPR x o M W (cl (F_X11_refuseLong M x (-4)) fun M r => some (M, r)) (cl (F_X12_refuseLong W o (-4)) fun M r => some (M, r)) := opr_map id (opr_refuseL h rf4 (by omega) (by omega)) (fun _ _ => rfl) (fun _ _ => rfl)
  have r6 : OPR x o M W (cl (F_X11_refuseLong M x (-6)) fun M r => some (M, r)) (cl (F_X12_refuseLong W o (-6)) fun M r => some (M, r)) := opr_map id (opr_refuseL h rf6 (by omega) (by omega)) (fun _ _ => rfl) (fun _ _ => rfl)
  obtain ⟨ha, ua, ba, ma, ea, ra, rb, tg, hr, hR⟩ := id h
  have hC := hR.csh
  have hI := hR.mi
  have h8 := hI.nb8
  have esz : gI M 2 (x + 47) = Int32.ofNat (nbW W o) := hR.bos.1.2.1
  have z0 : (0 : Int32).toInt = 0 := by decide
  have z1 : (1 : Int32).toInt = 1 := by decide
  have z2 : (2 : Int32).toInt = 2 := by decide
  have z5 : (500 : Int32).toInt = 500 := by decide
  have l0 : (0 : Int64).toInt = 0 := by decide
  have l2 : (2 : Int64).toInt = 2 := by decide
  unfold F_X11_ahead F_X12_ahead
  by_cases c1 : s < 0
  · rw [if_pos c1, if_pos c1]
    exact r1
  · rw [if_neg c1, if_neg c1, hC.r1205, lr_some hC.k46, hC.r203_46, lr_some hC.k47, c_size, cl_some]
    dsimp only
    rw [esz, hI.nb]
    by_cases c2 : s < (1 : Int32) <<< (Int32.ofNat (nbW W o) &&& 31)
    · rw [if_pos c2, if_pos c2, m_in, cl_some]
      by_cases c3 : isB 3 w
      · have c3' : (0 : Int64) ≤ w.toInt64 ∧ w.toInt64 ≤ 2 := by
          rw [Int64.le_iff_toInt_le, Int64.le_iff_toInt_le, Int32.toInt_toInt64, l0, l2]
          have := c3.2
          exact ⟨c3.1, by omega⟩
        have d1 : ¬ w < 0 := by
          rw [Int32.lt_iff_toInt_lt, z0]
          have := c3.1
          omega
        have d2 : w ≤ (2 : Int32) := by
          rw [Int32.le_iff_toInt_le, z2]
          have := c3.2
          omega
        rw [if_pos c3', if_neg one_nz, if_neg d1, if_pos d2, c_beyond, cl_some]
        dsimp only
        rw [m_bars, cl_some]
        dsimp only
        by_cases e1 : (1 : Int32) ≤ a
        · by_cases e2 : a ≤ (500 : Int32)
          · rw [if_pos e1, if_pos e2, if_pos rfl, if_pos rfl]
            have e1 := i32_le.mp e1
            have e2 := i32_le.mp e2
            obtain ⟨n, hn, rfl⟩ := isB_of (n := 501) (b := a) ⟨by omega, by omega⟩
            rw [ofN_toInt (by omega)] at e1
            by_cases f1 : w = (2 : Int32)
            · have run := r_aheadRun hR (n := n) (by omega) (by omega) s w (Or.inl f1)
              rw [if_pos f1]
              by_cases g1 : Int32.ofNat (nbW W o) = 0
              · rw [hI.nb, if_pos g1, if_pos (by rw [f1]; exact Int32.le_refl _)]
                exact run
              · rw [hI.nb, if_neg g1]
                exact run
            · rw [if_neg f1, hC.r1205, lr_some hC.k46, hC.r203_46, lr_some hC.k47, hI.nb]
              unfold F_Jx4a65c_isEmpty_aae02
              rw [esz]
              by_cases g1 : Int32.ofNat (nbW W o) = 0
              · have g2 : ¬ (2 : Int32) ≤ w := fun k => by
                  have k1 := i32_le.mp k
                  have k2 := i32_le.mp d2
                  exact f1 (Int32.toInt_inj.mp (by omega))
                rw [if_pos g1, if_neg g2]
                simp only [g1, if_true, if_false]
                exact r3
              · have g3 : 1 ≤ nbW W o := by
                  rcases Nat.eq_zero_or_pos (nbW W o) with k | k
                  · rw [k] at g1
                    exact absurd rfl g1
                  · exact k
                have run := r_aheadRun hR (n := n) (by omega) (by omega) s w (Or.inr ⟨g3, by
                  have k2 := i32_le.mp d2
                  have k3 := c3.1
                  have k4 : ¬ w.toInt = 2 := fun k => f1 (Int32.toInt_inj.mp (by omega))
                  rcases (show w.toInt = 0 ∨ w.toInt = 1 by omega) with k | k
                  · exact Or.inl (Int32.toInt_inj.mp (by omega))
                  · exact Or.inr (Int32.toInt_inj.mp (by omega))⟩)
                rw [if_neg g1]
                simp only [g1, if_true, if_false]
                exact run
          · rw [if_pos e1, if_neg e2, if_neg neg6_nz, if_neg neg6_nz, m_bars, cl_some, if_pos e1, if_neg e2]
            exact r6
        · rw [if_neg e1, if_neg neg4_nz, if_neg neg4_nz, m_bars, cl_some, if_neg e1]
          exact r4
      · have c3' : ¬ ((0 : Int64) ≤ w.toInt64 ∧ w.toInt64 ≤ 2) := by
          rw [Int64.le_iff_toInt_le, Int64.le_iff_toInt_le, Int32.toInt_toInt64, l0, l2]
          exact fun k => c3 ⟨k.1, by omega⟩
        rw [if_neg c3', if_pos rfl]
        by_cases d1 : w < 0
        · rw [if_pos d1]
          exact r2
        · rw [if_neg d1, if_neg]
          · exact r2
          · intro k
            have k1 := i32_le.mp k
            rw [Int32.lt_iff_toInt_lt, z0] at d1
            exact c3 ⟨by omega, by omega⟩
    · rw [if_neg c2, if_neg c2]
      exact r1
