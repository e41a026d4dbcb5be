theorem op_bore {x o : Nat} {M W : Mem} (h : Rel x o M W) (a b c d e : Int32) : OPR x o M W (F_X11_bore M x a b c d e) (F_X12_bore W o a b c d e) := by
  have r4 : OPR x o M W (F_X11_bore_p25 M x) (F_X12_bore_p25 W o) := opr_map id (opr_refuse h rf4 (by omega) (by omega)) (fun _ _ => rfl) (fun _ _ => rfl)
  have r6 : OPR x o M W (F_X11_bore_p86 M x) (F_X12_bore_p76 W o) := opr_map id (opr_refuse h rf6 (by omega) (by omega)) (fun _ _ => rfl) (fun _ _ => rfl)
  obtain ⟨ha, ua, ba, ma, ea, ra, rb, tg, hr, hR⟩ := id h
  have hC := hR.csh
  have hI := hR.mi
  have hS := hI.sh
  have h8 := hI.nb8
  have hBo := hR.bos
  have hnb := hI.nb
  unfold F_X11_bore F_X12_bore
  by_cases c1 : a < 0
  · rw [if_pos c1, if_pos c1]
    exact r4
  · rw [if_neg c1, if_neg c1]
    by_cases c2 : b < (1 : Int32)
    · rw [if_pos c2, if_pos c2]
      exact r4
    · rw [if_neg c2, if_neg c2]
      by_cases c3 : c < (100 : Int32)
      · rw [if_pos c3, if_pos c3]
        exact r4
      · rw [if_neg c3, if_neg c3]
        by_cases c4 : d < 0
        · rw [if_pos c4, if_pos c4]
          exact r4
        · rw [if_neg c4, if_neg c4]
          by_cases c5 : 0 ≤ e
          · rw [if_pos c5, if_pos c5, hC.r1205, lr_some hC.k46, hC.r203_46, lr_some hC.k47, c_size, cl_some]
            dsimp only
            by_cases d1 : (9999 : Int32) < a
            · rw [if_pos d1, if_pos d1]
              exact r6
            · rw [if_neg d1, if_neg d1]
              by_cases d2 : (8 : Int32) < b
              · rw [if_pos d2, if_pos d2]
                exact r6
              · rw [if_neg d2, if_neg d2]
                by_cases d3 : (9999 : Int32) < c
                · rw [if_pos d3, if_pos d3]
                  exact r6
                · rw [if_neg d3, if_neg d3]
                  by_cases d4 : (999 : Int32) < d
                  · rw [if_pos d4, if_pos d4]
                    exact r6
                  · rw [if_neg d4, if_neg d4]
                    by_cases d5 : (99 : Int32) < e
                    · rw [if_pos d5, if_pos d5]
                      exact r6
                    · rw [if_neg d5, if_neg d5, show x + 47 = x + 46 + 1 from rfl, hBo.1.2.1, hnb]
                      generalize hn : nbW W o = n at h8 hnb
                      by_cases c8 : n < 8
                      · rw [if_pos (show Int32.ofNat n < (8 : Int32) from (ofN_lt (m := 8) (by omega) (by omega)).mpr c8), if_neg (show ¬ Int32.ofNat n = (8 : Int32) from fun z => by
                          have := (ofN_eq (m := 8) (by omega) (by omega)).mp z
                          omega), hC.r1205, lr_some hC.k46, hC.r203_46, lr_some hC.k47]
                        have z0 : (0 : Int32).toInt = 0 := by decide
                        have z1 : (1 : Int32).toInt = 1 := by decide
                        have z8 : (8 : Int32).toInt = 8 := by decide
                        have z99 : (99 : Int32).toInt = 99 := by decide
                        have z100 : (100 : Int32).toInt = 100 := by decide
                        have z999 : (999 : Int32).toInt = 999 := by decide
                        have z9999 : (9999 : Int32).toInt = 9999 := by decide
                        rw [Int32.lt_iff_toInt_lt] at c1 c2 c3 c4 d1 d2 d3 d4 d5
                        rw [Int32.le_iff_toInt_le] at c5
                        obtain ⟨R, rfl, R1, R8⟩ : ∃ R : Nat, b = Int32.ofNat R ∧ 1 ≤ R ∧ R ≤ 8 := ⟨b.toInt.toNat, by
                          apply Int32.toInt_inj.mp
                          rw [ofN_toInt (by omega)]
                          omega, by omega, by omega⟩
                        obtain ⟨φ, m1, m2, m3⟩ := m_bore hS c8 R8 hnb a c d e
                        obtain ⟨N1, M1, N2, M2, s1, s2, s3, s4, s5, s6, s7, s8, s9, s10⟩ := r_bore hR hn c8 R1 R8 (pl := a) (hd := c) (st := d) (wm := e) ⟨by omega, by omega⟩ ⟨by omega, by omega⟩ ⟨by omega, by omega⟩ ⟨by omega, by omega⟩ m2 m3
                        refine ⟨M2, _, Int32.ofNat n, ?_, ?_, s6, s7, s8, s9, s10, ?_, ?_⟩
                        · refine bnd_i (bnd_i ?_)
                          rw [s1, cl_some]
                          dsimp only
                          rw [s2, cl_some]
                          dsimp only
                          rw [s3.r1206, lr_some s3.k49, s3.r203_49, lr_some s3.k50]
                          refine bnd_i (bnd_i ?_)
                          rw [s4, cl_some]
                          dsimp only
                          rw [s5, cl_some]
                        · rw [hnb] at m1
                          exact m1
                        · exact (bw_wm W o n (a / (100 : Int32)) (a - a / (100 : Int32) * (100 : Int32)) (Int32.ofNat R) c d e φ).2.2.2.2.2.1
                        · exact (bw_wm W o n (a / (100 : Int32)) (a - a / (100 : Int32) * (100 : Int32)) (Int32.ofNat R) c d e φ).2.2.2.2.2.2.1
                      · have : n = 8 := by omega
                        subst this
                        rw [if_neg (show ¬ Int32.ofNat 8 < (8 : Int32) by decide), if_pos (show Int32.ofNat 8 = (8 : Int32) from rfl)]
                        exact r6
          · rw [if_neg c5, if_neg c5]
            exact r4
