theorem stS_congr {o : Nat} {W W1 : Mem} (h : SameW o W W1) (hop : gA W1 (o + 10) = gA W (o + 10)) (hr : Nat) (f g t : Nat → Int64) : ∀ k, stS W1 o hr f g t k = stS W o hr f g t k := by
  intro k
  induction k with
  | zero => rfl
  | succ k ih =>
    show hourS W1 o (hr + k) (stS W1 o hr f g t k).1 (stS W1 o hr f g t k).2.1 (stS W1 o hr f g t k).2.2 = hourS W o (hr + k) (stS W o hr f g t k).1 (stS W o hr f g t k).2.1 (stS W o hr f g t k).2.2
    rw [ih, hourS_congr h hop]
theorem bit_zero : ∀ b, b < 8 → ¬ bitP 0 b := by decide
theorem bit_one : ∀ c, c < 8 → ∀ b, b < 8 → (bitP ((1 : Int32) <<< (Int32.ofNat c &&& 31)) b ↔ b = c) := by decide
theorem op_taken {x o : Nat} {M W : Mem} (h : Rel x o M W) (b c a : Int32) : OPR x o M W (F_X11_takenFrom M x b c a) (F_X12_takenFrom W o b c a) := by
  have r1 : OPR x o M W (F_X11_takenFrom_p27 M x) (F_X12_takenFrom_p21 W o) := opr_map id (opr_refuseL h rf1 (by omega) (by omega)) (fun _ _ => rfl) (fun _ _ => rfl)
  refine bore_cases b ?_ ?_ h
  · intro ha ua ba ma ea ra rb tg hr hR i hi e1 f1 f2
    have hC := hR.csh
    have hI := hR.mi
    have h8 := hI.nb8
    have hh := hR.2.1.1
    unfold F_X11_takenFrom F_X12_takenFrom
    rw [hC.r1205, lr_some hC.k46, f1, cl_some, f2, cl_some, if_neg (show ¬ (1 : Int32) = 0 by decide)]
    show OPR x o M W (lr _ _ _ _) _
    rw [hC.r1205, lr_some hC.k46, m_isBore hI.nb h8, cl_some]
    by_cases c1 : isB (nbW W o) c
    · obtain ⟨j, hj, rfl⟩ := isB_of c1
      rw [c_find hC.g46 hI hR.bos hj, cl_some, if_pos c1]
      show OPR x o M W (if b = Int32.ofNat j then _ else _) (if (1 : Int32) = 0 then _ else _)
      rw [if_neg one_nz]
      by_cases c2 : b = Int32.ofNat j
      · rw [if_pos c2, if_pos c2]
        exact r1
      · rw [if_neg c2, if_neg c2, c_beyond, cl_some]
        dsimp only
        rw [m_bars, cl_some]
        dsimp only
        by_cases d1 : (1 : Int32) ≤ a
        · by_cases d2 : a ≤ (500 : Int32)
          · rw [if_pos d1, if_pos d2, if_pos rfl, if_pos rfl, e1]
            have z1 : (1 : Int32).toInt = 1 := by decide
            have z5 : (500 : Int32).toInt = 500 := by decide
            have d1 := i32_le.mp d1
            have d2 := i32_le.mp d2
            obtain ⟨n, hn, rfl⟩ := isB_of (n := 501) (b := a) ⟨by omega, by omega⟩
            have hn2 : hr + n ≤ 20000 := by
              have := hh.2
              omega
            have hop : ∀ k, k < 8 → gA W (o + 10) k = 0 ∨ gA W (o + 10) k = 1 := fun k hk => hI.op hk
            have hop2 : ∀ k, k < 8 → ud (gA W (o + 10)) j 0 k = 0 ∨ ud (gA W (o + 10)) j 0 k = 1 := fun k hk => by
              unfold ud
              by_cases z : k = j
              · rw [if_pos z]
                exact Or.inl rfl
              · rw [if_neg z]
                exact hI.op hk
            obtain ⟨M2, p1, p2⟩ := c_givenInMind hop 0 (fun k hk => (if_neg (bit_zero k (by omega))).symm) hR.1 hR.2.1.2.1 hn2 hi
            obtain ⟨M3, p3, p4⟩ := c_givenInMind hop2 ((1 : Int32) <<< (Int32.ofNat j &&& 31)) (fun k hk => by
              unfold ud
              by_cases z : k = j
              · rw [if_pos z, if_pos ((bit_one j (by omega) k (by omega)).mpr z)]
              · rw [if_neg z, if_neg (fun w => z ((bit_one j (by omega) k (by omega)).mp w))]) (hR.1.frm p2) hR.2.1.2.1 hn2 hi
            obtain ⟨⟨W2, q1, q2⟩, -⟩ := m_givenBy hI (hr := hr) ⟨hh.1, rfl, rfl, rfl⟩ hn2 hi hj
            have hI2 := q2.mi hI
            have nb2 : nbW W2 o = nbW W o := q2.1.same.nb
            obtain ⟨-, W3, q3, q4⟩ := m_givenBy hI2 (hr := hr) (h := gB W (o + 11)) (g := gB W (o + 12)) (t := gB W (o + 13)) ⟨q2.2.1.trans hh.1, q2.2.2.2.1, q2.2.2.2.2.1, q2.2.2.2.2.2⟩ hn2 (b := i) (c := j) (by omega) (by omega)
            have es := stS_congr (o := o) (W := WO W o (gA W (o + 10))) (W1 := WO W2 o (gA W2 (o + 10))) (((WO_same W o (gA W (o + 10))).symm.trans q2.1.same).trans (WO_same W2 o (gA W2 (o + 10)))) (by rw [WO_op, WO_op, q2.2.2.1]) hr (gB W (o + 11)) (gB W (o + 12)) (gB W (o + 13)) n
            rw [es] at q3
            refine opr_mind hR (p2.trans p4) (q2.trans q4) (r := (stS (WO W o (ud (gA W (o + 10)) j 0)) o hr (gB W (o + 11)) (gB W (o + 12)) (gB W (o + 13)) n).2.1 i - (stS (WO W o (gA W (o + 10))) o hr (gB W (o + 11)) (gB W (o + 12)) (gB W (o + 13)) n).2.1 i) ?_ ?_
            · rw [p1, cl_some]
              dsimp only
              rw [p3, cl_some]
            · rw [q1, cl_some]
              dsimp only
              rw [q3, cl_some]
              have eg : ∀ u v w : Int64, (u - w) - (v - w) = u - v := by
                intro u v w
                grind
              rw [eg]
          · rw [if_pos d1, if_neg d2, if_neg neg6_nz, if_neg neg6_nz, m_bars, cl_some, if_pos d1, if_neg d2]
            exact opr_map id (opr_refuseL h rf6 (by omega) (by omega)) (fun _ _ => rfl) (fun _ _ => rfl)
        · rw [if_neg d1, if_neg neg4_nz, if_neg neg4_nz, m_bars, cl_some, if_neg d1]
          exact opr_map id (opr_refuseL h rf4 (by omega) (by omega)) (fun _ _ => rfl) (fun _ _ => rfl)
    · rw [c_find_no hC.g46 hI hR.bos c1, cl_some, if_neg c1]
      exact r1
  · intro f3 f4 f1 f2
    unfold F_X11_takenFrom F_X12_takenFrom
    rw [f3, lr_some f4, f1, f2, cl_some, cl_some, if_pos rfl]
    exact r1
theorem op_few {x o : Nat} {M W : Mem} (h : Rel x o M W) (a m : Int32) : OPR x o M W (F_X11_few M x a m) (F_X12_few W o a m) := by
  have r4 : OPR x o M W (F_X11_few_p9 M x) (F_X12_few_p9 W o) := opr_map id (opr_refuse h rf4 (by omega) (by omega)) (fun _ _ => rfl) (fun _ _ => rfl)
  have r6 : OPR x o M W (F_X11_few_p28 M x) (F_X12_few_p28 W o) := opr_map id (opr_refuse h rf6 (by omega) (by omega)) (fun _ _ => rfl) (fun _ _ => rfl)
  unfold F_X11_few F_X12_few
  by_cases c1 : a < (1 : Int32)
  · rw [if_pos c1, if_pos c1]
    exact r4
  · rw [if_neg c1, if_neg c1]
    by_cases c2 : 0 ≤ m
    · rw [if_pos c2, if_pos c2]
      by_cases c3 : (100 : Int32) < a
      · rw [if_pos c3, if_pos c3]
        exact r6
      · rw [if_neg c3, if_neg c3]
        by_cases c4 : m ≤ (1000000000 : Int32)
        · rw [if_pos c4, if_pos c4]
          obtain ⟨ha, ua, ba, ma, ea, ra, rb, tg, hr, hR⟩ := h
          have hC := hR.csh
          have hI := hR.mi
          have h8 := hI.nb8
          have h256 := two_pow_le (nbW W o) h8
          have hh := hR.2.1.1
          have e3 := hR.2.1.2.2.1
          unfold E3 at e3
          have hh2 := hh.2
          have z0 : (0 : Int32).toInt = 0 := by decide
          have z1 : (1 : Int32).toInt = 1 := by decide
          have z2 : (100 : Int32).toInt = 100 := by decide
          have z3 : (1000000000 : Int32).toInt = 1000000000 := by decide
          rw [Int32.lt_iff_toInt_lt] at c1 c3
          have c2 := i32_le.mp c2
          have c4 := i32_le.mp c4
          obtain ⟨n, hn, rfl⟩ := isB_of (n := 101) (b := a) ⟨by omega, by omega⟩
          obtain ⟨M1, res, p1, p2, p3⟩ := c_few_many hR.1 hR.2.1.2.1 (n := n) (m := m) (by omega) (by omega) (by omega) ⟨by omega, by omega⟩ (nbW W o + 1) 0 FU M (by omega) (by unfold FU; omega) (FRM.refl _) (fun s _ hs => by omega)
          obtain ⟨Wk, k1, k2, k3, k4, k5, k6, k7, k8⟩ := m_keeps hI
          have hBK : BK o W Wk := ⟨k3, k4, k5, k6, k7, k8⟩
          obtain ⟨W1, res1, q1, q2, q3⟩ := m_few_loop hI (hr := hr) (h := gB W (o + 11)) (g := gB W (o + 12)) (t := gB W (o + 13)) ⟨hh.1, rfl, rfl, rfl⟩ (n := n) (m := m) (by omega) (by omega) (by omega) ⟨by omega, by omega⟩ (2 ^ nbW W o) 0 FU Wk none (by omega) (by unfold FU; omega) hBK k2 (fun s hs => by omega)
          have er := FP.uniq p3 q3
          refine opr_mind hR p2 q2 (r := encF res) ?_ ?_
          · rw [hC.r1205, lr_some hC.k46, hC.r203_46, lr_some hC.k47, c_size, cl_some]
            dsimp only
            rw [hR.bos.1.2.1]
            exact p1
          · rw [k1, cl_some, er]
            exact q1
        · rw [if_neg c4, if_neg c4]
          exact r6
    · rw [if_neg c2, if_neg c2]
      exact r4
