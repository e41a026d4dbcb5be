set_option maxHeartbeats 4000000 in
theorem w_X12_cut_p23 {X : Option Cx} {G : EG} {res : Mem × Int64} : ∀ (M : Mem) (y0 : Int64), F_X12_cut_p23 M y0 = some res → T X (RJ G res) P_X12_cut M [] [] [.long y0] 23 := by
  intro M y0 hF
  unfold F_X12_cut_p23 at hF
  exact r_lret (pc := 23) dX12_cut_23 hF
set_option maxHeartbeats 4000000 in
theorem w_X12_cut {X : Option Cx} {G : EG} {res : Mem × Int64} (M : Mem) (a0 : Int64) (a1 : Int64) (a2 : Int64) (hF : F_X12_cut M a0 a1 a2 = some res) : T X (RJ G res) P_X12_cut M [] [(0, .long a0), (2, .long a1), (4, .long a2)] [] 0 := by
  unfold F_X12_cut at hF
  refine r_lload_n (pc := 0) 0 dX12_cut_0 rfl rfl ?_
  refine r_lload_n (pc := 1) 1 dX12_cut_1 rfl rfl ?_
  refine r_lcmp (pc := 2) dX12_cut_2 ?_
  refine r_if_ge (pc := 3) (tgt := 10) dX12_cut_3 rfl hF (fun hF => ?_) (fun hF => ?_)
  · refine r_lload_n (pc := 10) 0 dX12_cut_10 rfl rfl ?_
    refine r_lload (pc := 11) 2 dX12_cut_11 rfl ?_
    refine r_lcmp (pc := 13) dX12_cut_13 ?_
    refine r_if_le (pc := 14) (tgt := 22) dX12_cut_14 rfl hF (fun hF => ?_) (fun hF => ?_)
    · refine r_lload_n (pc := 22) 0 dX12_cut_22 rfl rfl ?_
      exact T.sub ((w_X12_cut_p23) M a0 hF) [] [] rfl rfl
    · refine r_lload (pc := 17) 2 dX12_cut_17 rfl ?_
      refine r_goto (pc := 19) (tgt := 23) dX12_cut_19 rfl ?_
      exact T.sub ((w_X12_cut_p23) M a2 hF) [] [] rfl rfl
  · refine r_lload_n (pc := 6) 1 dX12_cut_6 rfl rfl ?_
    refine r_goto (pc := 7) (tgt := 23) dX12_cut_7 rfl ?_
    exact T.sub ((w_X12_cut_p23) M a1 hF) [] [] rfl rfl
theorem k_X12_cut (G : EG) (M : Mem) (a0 : Int64) (a1 : Int64) (a2 : Int64) (q : Mem × Int64) (h : F_X12_cut M a0 a1 a2 = some q) : Kt yX12_cut P_X12_cut M [] [.long a0, .long a1, .long a2] (RJ G q) := Kt.of (by decide +kernel) rfl (Nat.le_of_ble_eq_true rfl) rfl (fun X hz => w_X12_cut M a0 a1 a2 h)
set_option maxHeartbeats 4000000 in
theorem w_X12_isJoined_p24 {X : Option Cx} {G : EG} {res : Mem × Int32} : ∀ (M : Mem) (y0 : Int32), F_X12_isJoined_p24 M y0 = some res → T X (RI G res) P_X12_isJoined M [] [] [.int y0] 24 := by
  intro M y0 hF
  unfold F_X12_isJoined_p24 at hF
  exact r_zret (pc := 24) dX12_isJoined_24 hF
set_option maxHeartbeats 4000000 in
theorem w_X12_isJoined_p23 {X : Option Cx} {G : EG} {res : Mem × Int32} : ∀ (M : Mem), F_X12_isJoined_p23 M = some res → T X (RI G res) P_X12_isJoined M [] [] [] 23 := by
  intro M hF
  unfold F_X12_isJoined_p23 at hF
  refine r_iconst (pc := 23) (w := 0) dX12_isJoined_23 (by decide) ?_
  exact T.sub ((w_X12_isJoined_p24) M (0 : Int32) hF) [] [] rfl rfl
set_option maxHeartbeats 4000000 in
theorem w_X12_isJoined {X : Option Cx} {G : EG} {res : Mem × Int32} (M : Mem) (a0 : Nat) (a1 : Int32) (a2 : Int32) (hF : F_X12_isJoined M a0 a1 a2 = some res) : T X (RI G res) P_X12_isJoined M [(a0, 14)] [(0, .ref a0), (1, .int a1), (2, .int a2)] [] 0 := by
  unfold F_X12_isJoined at hF
  refine r_aload_n (pc := 0) 0 dX12_isJoined_0 rfl rfl ?_
  refine gf_X12_60 (pc := 1) (j := 0) rfl dX12_isJoined_1 ?_
  refine r_lr (by decide) hF (fun b1 hF => ?_)
  refine r_iload_n (pc := 4) 1 dX12_isJoined_4 rfl rfl ?_
  refine r_iald (pc := 5) (j := 0) rfl dX12_isJoined_5 hF (fun hF => ?_)
  refine r_if_lt (pc := 6) (tgt := 23) dX12_isJoined_6 rfl hF (fun hF => ?_) (fun hF => ?_)
  · exact T.sub ((w_X12_isJoined_p23) M hF) [] [] rfl rfl
  · refine r_aload_n (pc := 9) 0 dX12_isJoined_9 rfl rfl ?_
    refine gf_X12_60 (pc := 10) (j := 1) rfl dX12_isJoined_10 ?_
    refine r_lr (by decide) hF (fun b2 hF => ?_)
    refine r_iload_n (pc := 13) 1 dX12_isJoined_13 rfl rfl ?_
    refine r_iald (pc := 14) (j := 0) rfl dX12_isJoined_14 hF (fun hF => ?_)
    refine r_iload_n (pc := 15) 2 dX12_isJoined_15 rfl rfl ?_
    refine r_icmp_gt (pc := 16) (tgt := 23) dX12_isJoined_16 rfl hF (fun hF => ?_) (fun hF => ?_)
    · exact T.sub ((w_X12_isJoined_p23) M hF) [] [] rfl rfl
    · refine r_iconst (pc := 19) (w := 1) dX12_isJoined_19 (by decide) ?_
      refine r_goto (pc := 20) (tgt := 24) dX12_isJoined_20 rfl ?_
      exact T.sub ((w_X12_isJoined_p24) M (1 : Int32) hF) [] [] rfl rfl
theorem k_X12_isJoined (G : EG) (M : Mem) (a0 : Nat) (a1 : Int32) (a2 : Int32) (q : Mem × Int32) (h : F_X12_isJoined M a0 a1 a2 = some q) : Kt yX12_isJoined P_X12_isJoined M [(a0, 14)] [.ref a0, .int a1, .int a2] (RI G q) := Kt.of (by decide +kernel) rfl (Nat.le_of_ble_eq_true rfl) rfl (fun X hz => w_X12_isJoined M a0 a1 a2 h)
set_option maxHeartbeats 4000000 in
theorem w_X12_needOf_p110 {X : Option Cx} {G : EG} {res : Mem × Int64} {k26 : Mem → Nat → Int32 → Int64 → Int32 → Int32 → Int32 → Option (Mem × Int64)} (hk26 : ∀ (M : Mem) (x0 : Nat) (x1 : Int32) (x2 : Int64) (x4 : Int32) (x5 : Int32) (x6 : Int32), k26 M x0 x1 x2 x4 x5 x6 = some res → T X (RJ G res) P_X12_needOf M [(x0, 14)] [(0, .ref x0), (1, .int x1), (2, .long x2), (4, .int x4), (5, .int x5), (6, .int x6)] [] 26) : ∀ (M : Mem) (x0 : Nat) (x1 : Int32) (x2 : Int64) (x4 : Int32) (x5 : Int32) (x6 : Int32), F_X12_needOf_p110 k26 M x0 x1 x2 x4 x5 x6 = some res → T X (RJ G res) P_X12_needOf M [(x0, 14)] [(0, .ref x0), (1, .int x1), (2, .long x2), (4, .int x4), (5, .int x5), (6, .int x6)] [] 110 := by
  intro M x0 x1 x2 x4 x5 x6 hF
  unfold F_X12_needOf_p110 at hF
  obtain ⟨v1, e9, hF⟩ := bnd_e hF
  refine r_iinc (pc := 110) (w := v1) (k := 5) (L1 := [(6, .int v1), (0, .ref x0), (1, .int x1), (2, .long x2), (4, .int x4), (5, .int x5)]) dX12_needOf_110 rfl (by rw [e9]; rfl) (by decide) rfl ?_
  clear e9
  refine r_goto (pc := 113) (tgt := 26) dX12_needOf_113 rfl ?_
  exact T.sub (hk26 M x0 x1 x2 x4 x5 v1 hF) [0] [1, 2, 3, 4, 5, 0] rfl rfl
set_option maxHeartbeats 4000000 in
theorem w_X12_needOf_p108 {X : Option Cx} {G : EG} {res : Mem × Int64} {k26 : Mem → Nat → Int32 → Int64 → Int32 → Int32 → Int32 → Option (Mem × Int64)} (hk26 : ∀ (M : Mem) (x0 : Nat) (x1 : Int32) (x2 : Int64) (x4 : Int32) (x5 : Int32) (x6 : Int32), k26 M x0 x1 x2 x4 x5 x6 = some res → T X (RJ G res) P_X12_needOf M [(x0, 14)] [(0, .ref x0), (1, .int x1), (2, .long x2), (4, .int x4), (5, .int x5), (6, .int x6)] [] 26) : ∀ (M : Mem) (x0 : Nat) (x1 : Int32) (x4 : Int32) (x5 : Int32) (x6 : Int32) (y0 : Int64) (y1 : Int64), F_X12_needOf_p108 k26 M x0 x1 x4 x5 x6 y0 y1 = some res → T X (RJ G res) P_X12_needOf M [(x0, 14)] [(0, .ref x0), (1, .int x1), (4, .int x4), (5, .int x5), (6, .int x6)] [.long y1, .long y0] 108 := by
  intro M x0 x1 x4 x5 x6 y0 y1 hF
  unfold F_X12_needOf_p108 at hF
  refine r_ladd (pc := 108) dX12_needOf_108 ?_
  refine r_gJ (pc := 109) hF (fun v1 hF => ?_)
  refine r_lstore_n (pc := 109) (L1 := [(2, .long v1), (0, .ref x0), (1, .int x1), (4, .int x4), (5, .int x5), (6, .int x6)]) dX12_needOf_109 rfl (by decide) rfl ?_
  exact T.sub ((w_X12_needOf_p110 hk26) M x0 x1 v1 x4 x5 x6 hF) [0] [1, 2, 0, 3, 4, 5] rfl rfl
set_option maxHeartbeats 4000000 in
theorem w_X12_needOf_p73 {X : Option Cx} {G : EG} {res : Mem × Int64} {k26 : Mem → Nat → Int32 → Int64 → Int32 → Int32 → Int32 → Option (Mem × Int64)} (hk26 : ∀ (M : Mem) (x0 : Nat) (x1 : Int32) (x2 : Int64) (x4 : Int32) (x5 : Int32) (x6 : Int32), k26 M x0 x1 x2 x4 x5 x6 = some res → T X (RJ G res) P_X12_needOf M [(x0, 14)] [(0, .ref x0), (1, .int x1), (2, .long x2), (4, .int x4), (5, .int x5), (6, .int x6)] [] 26) : ∀ (M : Mem) (x0 : Nat) (x1 : Int32) (x2 : Int64) (x4 : Int32) (x5 : Int32) (x6 : Int32) (y0 : Int64) (y1 : Int64) (y2 : Int32), F_X12_needOf_p73 k26 M x0 x1 x2 x4 x5 x6 y0 y1 y2 = some res → T X (RJ G res) P_X12_needOf M [(x0, 14)] [(0, .ref x0), (1, .int x1), (2, .long x2), (4, .int x4), (5, .int x5), (6, .int x6)] [.int y2, .long y1, .long y0] 73 := by
  intro M x0 x1 x2 x4 x5 x6 y0 y1 y2 hF
  unfold F_X12_needOf_p73 at hF
  refine r_i2l (pc := 73) dX12_needOf_73 ?_
  refine r_lmul (pc := 74) dX12_needOf_74 ?_
  refine r_ladd (pc := 75) dX12_needOf_75 ?_
  refine r_gJ (pc := 76) hF (fun v1 hF => ?_)
  refine r_lstore (pc := 76) (L1 := [(7, .long v1), (0, .ref x0), (1, .int x1), (2, .long x2), (4, .int x4), (5, .int x5), (6, .int x6)]) dX12_needOf_76 (by decide) rfl ?_
  refine r_lload_n (pc := 78) 3 dX12_needOf_78 rfl rfl ?_
  refine r_aload_n (pc := 79) 1 dX12_needOf_79 rfl rfl ?_
  refine gf_X12_57 (pc := 80) (j := 0) rfl dX12_needOf_80 ?_
  refine r_lr (by decide) hF (fun b2 hF => ?_)
  refine r_iload (pc := 83) 6 dX12_needOf_83 rfl ?_
  refine r_iald (pc := 85) (j := 0) rfl dX12_needOf_85 hF (fun hF => ?_)
  refine r_iload_n (pc := 86) 2 dX12_needOf_86 rfl rfl ?_
  refine r_bipush (pc := 87) (w := 24) dX12_needOf_87 (by decide) ?_
  refine r_iremc (pc := 89) dX12_needOf_89 (by decide) ?_
  refine r_ishr (pc := 90) dX12_needOf_90 ?_
  refine r_iconst (pc := 91) (w := 1) dX12_needOf_91 (by decide) ?_
  refine r_iand (pc := 92) dX12_needOf_92 ?_
  refine r_iconst (pc := 93) (w := 1) dX12_needOf_93 (by decide) ?_
  refine r_icmp_ne (pc := 94) (tgt := 102) dX12_needOf_94 rfl hF (fun hF => ?_) (fun hF => ?_)
  · refine r_lload (pc := 102) 0 dX12_needOf_102 rfl ?_
    refine r_ldc2 (pc := 104) (w := 2) tw_1290 dX12_needOf_104 ?_
    refine r_ldivc (pc := 107) dX12_needOf_107 (by decide) ?_
    exact T.sub ((w_X12_needOf_p108 hk26) M x0 x1 x4 x5 x6 x2 (v1 / (2 : Int64)) hF) [1] [1, 2, 4, 5, 6] rfl rfl
  · refine r_lload (pc := 97) 0 dX12_needOf_97 rfl ?_
    refine r_goto (pc := 99) (tgt := 108) dX12_needOf_99 rfl ?_
    exact T.sub ((w_X12_needOf_p108 hk26) M x0 x1 x4 x5 x6 x2 v1 hF) [1] [1, 2, 4, 5, 6] rfl rfl
set_option maxHeartbeats 4000000 in
theorem w_X12_needOf_p26 {X : Option Cx} {G : EG} {res : Mem × Int64} {k116 : Mem → Int64 → Option (Mem × Int64)} (hk116 : ∀ (M : Mem) (x2 : Int64), k116 M x2 = some res → T X (RJ G res) P_X12_needOf M [] [(2, .long x2)] [] 116) : ∀ (n : Nat) (M : Mem) (x0 : Nat) (x1 : Int32) (x2 : Int64) (x4 : Int32) (x5 : Int32) (x6 : Int32), F_X12_needOf_p26 k116 n M x0 x1 x2 x4 x5 x6 = some res → T X (RJ G res) P_X12_needOf M [(x0, 14)] [(0, .ref x0), (1, .int x1), (2, .long x2), (4, .int x4), (5, .int x5), (6, .int x6)] [] 26 := by
  intro n
  induction n with
  | zero =>
    intro M x0 x1 x2 x4 x5 x6 hF
    cases hF
  | succ n ih =>
    intro M x0 x1 x2 x4 x5 x6 hF
    unfold F_X12_needOf_p26 at hF
    refine r_iload (pc := 26) 5 dX12_needOf_26 rfl ?_
    refine r_aload_n (pc := 28) 0 dX12_needOf_28 rfl rfl ?_
    refine gf_X12_196 (pc := 29) (j := 0) rfl dX12_needOf_29 ?_
    refine r_icmp_ge (pc := 32) (tgt := 116) dX12_needOf_32 rfl hF (fun hF => ?_) (fun hF => ?_)
    · exact T.sub (hk116 M x2 hF) [] [2] rfl rfl
    · refine r_aload_n (pc := 35) 0 dX12_needOf_35 rfl rfl ?_
      refine r_iload (pc := 36) 5 dX12_needOf_36 rfl ?_
      refine r_iload (pc := 38) 3 dX12_needOf_38 rfl ?_
      refine r_callV_I (pc := 40) (Py := P_X12_isJoined) (n := 2) (As := [.int x6, .int x4]) (fun q e => k_X12_isJoined G _ x0 x6 x4 q e) (c := 13) (Tb := TX12) (N := 58) rfl (by decide) (j0 := 0) rfl tw_1286 tw_1288 tw_33 tw_70 tw_1289 hd_X12_isJoined ⟨Nat.le_of_ble_eq_true rfl, Nat.le_of_ble_eq_true rfl⟩ rfl [0] rfl rfl (Nat.le_of_ble_eq_true rfl) dX12_needOf_40 hF (fun M1 r2 hF => ?_)
      refine r_if_eq (pc := 43) (tgt := 110) dX12_needOf_43 rfl hF (fun hF => ?_) (fun hF => ?_)
      · exact T.sub ((w_X12_needOf_p110 ih) M1 x0 x1 x2 x4 x5 x6 hF) [0] [0, 1, 2, 3, 4, 5] rfl rfl
      · refine r_aload_n (pc := 46) 0 dX12_needOf_46 rfl rfl ?_
        refine gf_X12_51 (pc := 47) (j := 0) rfl dX12_needOf_47 ?_
        refine r_lr (by decide) hF (fun b3 hF => ?_)
        refine r_iload (pc := 50) 5 dX12_needOf_50 rfl ?_
        refine r_iald (pc := 52) (j := 0) rfl dX12_needOf_52 hF (fun hF => ?_)
        refine r_i2l (pc := 53) dX12_needOf_53 ?_
        refine r_aload_n (pc := 54) 0 dX12_needOf_54 rfl rfl ?_
        refine gf_X12_54 (pc := 55) (j := 1) rfl dX12_needOf_55 ?_
        refine r_lr (by decide) hF (fun b4 hF => ?_)
        refine r_iload (pc := 58) 5 dX12_needOf_58 rfl ?_
        refine r_iald (pc := 60) (j := 0) rfl dX12_needOf_60 hF (fun hF => ?_)
        refine r_i2l (pc := 61) dX12_needOf_61 ?_
        refine r_iload (pc := 62) 4 dX12_needOf_62 rfl ?_
        refine r_if_ge (pc := 64) (tgt := 71) dX12_needOf_64 rfl hF (fun hF => ?_) (fun hF => ?_)
        · refine r_iload (pc := 71) 4 dX12_needOf_71 rfl ?_
          exact T.sub ((w_X12_needOf_p73 ih) M1 x0 x1 x2 x4 x5 x6 ((gA M1 b3 (ixn x6)).toInt64) ((gA M1 b4 (ixn x6)).toInt64) x5 hF) [2] [0, 1, 2, 3, 4, 5] rfl rfl
        · refine r_iconst (pc := 67) (w := 0) dX12_needOf_67 (by decide) ?_
          refine r_goto (pc := 68) (tgt := 73) dX12_needOf_68 rfl ?_
          exact T.sub ((w_X12_needOf_p73 ih) M1 x0 x1 x2 x4 x5 x6 ((gA M1 b3 (ixn x6)).toInt64) ((gA M1 b4 (ixn x6)).toInt64) (0 : Int32) hF) [2] [0, 1, 2, 3, 4, 5] rfl rfl
set_option maxHeartbeats 4000000 in
theorem w_X12_needOf_p116 {X : Option Cx} {G : EG} {res : Mem × Int64} : ∀ (M : Mem) (x2 : Int64), F_X12_needOf_p116 M x2 = some res → T X (RJ G res) P_X12_needOf M [] [(2, .long x2)] [] 116 := by
  intro M x2 hF
  unfold F_X12_needOf_p116 at hF
  refine r_lload_n (pc := 116) 0 dX12_needOf_116 rfl rfl ?_
  exact r_lret (pc := 117) dX12_needOf_117 hF
set_option maxHeartbeats 4000000 in
theorem w_X12_needOf {X : Option Cx} {G : EG} {res : Mem × Int64} (M : Mem) (a0 : Nat) (a1 : Int32) (hF : F_X12_needOf M a0 a1 = some res) : T X (RJ G res) P_X12_needOf M [(a0, 14)] [(0, .ref a0), (1, .int a1)] [] 0 := by
  unfold F_X12_needOf at hF
  refine r_lconst (pc := 0) (w := 0) dX12_needOf_0 (by decide) ?_
  refine r_lstore_n (pc := 1) (L1 := [(2, .long ((0 : Int64))), (0, .ref a0), (1, .int a1)]) dX12_needOf_1 rfl (by decide) rfl ?_
  refine r_iload_n (pc := 2) 2 dX12_needOf_2 rfl rfl ?_
  refine r_bipush (pc := 3) (w := 24) dX12_needOf_3 (by decide) ?_
  refine r_idivc (pc := 5) dX12_needOf_5 (by decide) ?_
  refine r_gI (pc := 6) hF (fun v1 hF => ?_)
  refine r_istore (pc := 6) (L1 := [(4, .int v1), (2, .long ((0 : Int64))), (0, .ref a0), (1, .int a1)]) dX12_needOf_6 (by decide) rfl ?_
  refine r_bipush (pc := 8) (w := 15) dX12_needOf_8 (by decide) ?_
  refine r_aload_n (pc := 10) 2 dX12_needOf_10 rfl rfl ?_
  refine gf_X12_63 (pc := 11) (j := 0) rfl dX12_needOf_11 ?_
  refine r_lr (by decide) hF (fun b2 hF => ?_)
  refine r_iload (pc := 14) 0 dX12_needOf_14 rfl ?_
  refine r_bipush (pc := 16) (w := 12) dX12_needOf_16 (by decide) ?_
  refine r_iremc (pc := 18) dX12_needOf_18 (by decide) ?_
  refine r_iald (pc := 19) (j := 0) rfl dX12_needOf_19 hF (fun hF => ?_)
  refine r_isub (pc := 20) dX12_needOf_20 ?_
  refine r_gI (pc := 21) hF (fun v3 hF => ?_)
  refine r_istore (pc := 21) (L1 := [(5, .int v3), (4, .int v1), (2, .long ((0 : Int64))), (0, .ref a0), (1, .int a1)]) dX12_needOf_21 (by decide) rfl ?_
  refine r_iconst (pc := 23) (w := 0) dX12_needOf_23 (by decide) ?_
  refine r_istore (pc := 24) (L1 := [(6, .int ((0 : Int32))), (5, .int v3), (4, .int v1), (2, .long ((0 : Int64))), (0, .ref a0), (1, .int a1)]) dX12_needOf_24 (by decide) rfl ?_
  exact T.sub ((w_X12_needOf_p26 (w_X12_needOf_p116) FU) M a0 a1 (0 : Int64) v1 v3 (0 : Int32) hF) [1] [4, 5, 3, 2, 1, 0] rfl rfl
theorem k_X12_needOf (G : EG) (M : Mem) (a0 : Nat) (a1 : Int32) (q : Mem × Int64) (h : F_X12_needOf M a0 a1 = some q) : Kt yX12_needOf P_X12_needOf M [(a0, 14)] [.ref a0, .int a1] (RJ G q) := Kt.of (by decide +kernel) rfl (Nat.le_of_ble_eq_true rfl) rfl (fun X hz => w_X12_needOf M a0 a1 h)
set_option maxHeartbeats 4000000 in
theorem w_X12_holdOf {X : Option Cx} {G : EG} {res : Mem × Int32} (M : Mem) (a0 : Nat) (a1 : Int32) (a2 : Int32) (hF : F_X12_holdOf M a0 a1 a2 = some res) : T X (RI G res) P_X12_holdOf M [(a0, 14)] [(0, .ref a0), (1, .int a1), (2, .int a2)] [] 0 := by
  unfold F_X12_holdOf at hF
  refine r_aload_n (pc := 0) 0 dX12_holdOf_0 rfl rfl ?_
  refine gf_X12_22 (pc := 1) (j := 0) rfl dX12_holdOf_1 ?_
  refine r_lr (by decide) hF (fun b1 hF => ?_)
  refine r_iload_n (pc := 4) 1 dX12_holdOf_4 rfl rfl ?_
  refine r_iald (pc := 5) (j := 0) rfl dX12_holdOf_5 hF (fun hF => ?_)
  refine r_iload_n (pc := 6) 2 dX12_holdOf_6 rfl rfl ?_
  refine r_aload_n (pc := 7) 0 dX12_holdOf_7 rfl rfl ?_
  refine gf_X12_25 (pc := 8) (j := 1) rfl dX12_holdOf_8 ?_
  refine r_lr (by decide) hF (fun b2 hF => ?_)
  refine r_iload_n (pc := 11) 1 dX12_holdOf_11 rfl rfl ?_
  refine r_iald (pc := 12) (j := 0) rfl dX12_holdOf_12 hF (fun hF => ?_)
  refine r_imul (pc := 13) dX12_holdOf_13 ?_
  refine r_iadd (pc := 14) dX12_holdOf_14 ?_
  exact r_iret (pc := 15) dX12_holdOf_15 hF
theorem k_X12_holdOf (G : EG) (M : Mem) (a0 : Nat) (a1 : Int32) (a2 : Int32) (q : Mem × Int32) (h : F_X12_holdOf M a0 a1 a2 = some q) : Kt yX12_holdOf P_X12_holdOf M [(a0, 14)] [.ref a0, .int a1, .int a2] (RI G q) := Kt.of (by decide +kernel) rfl (Nat.le_of_ble_eq_true rfl) rfl (fun X hz => w_X12_holdOf M a0 a1 a2 h)
set_option maxHeartbeats 4000000 in
theorem w_X12_warmthOf {X : Option Cx} {G : EG} {res : Mem × Int64} (M : Mem) (a0 : Nat) (a1 : Int32) (a2 : Int32) (hF : F_X12_warmthOf M a0 a1 a2 = some res) : T X (RJ G res) P_X12_warmthOf M [(a0, 14)] [(0, .ref a0), (1, .int a1), (2, .int a2)] [] 0 := by
  unfold F_X12_warmthOf at hF
  refine r_aload_n (pc := 0) 0 dX12_warmthOf_0 rfl rfl ?_
  refine gf_X12_41 (pc := 1) (j := 0) rfl dX12_warmthOf_1 ?_
  refine r_lr (by decide) hF (fun b1 hF => ?_)
  refine r_bipush (pc := 4) (w := 8) dX12_warmthOf_4 (by decide) ?_
  refine r_iload_n (pc := 6) 1 dX12_warmthOf_6 rfl rfl ?_
  refine r_imul (pc := 7) dX12_warmthOf_7 ?_
  refine r_iload_n (pc := 8) 2 dX12_warmthOf_8 rfl rfl ?_
  refine r_iadd (pc := 9) dX12_warmthOf_9 ?_
  refine r_lald (pc := 10) (j := 0) rfl dX12_warmthOf_10 hF (fun hF => ?_)
  refine r_aload_n (pc := 11) 0 dX12_warmthOf_11 rfl rfl ?_
  refine r_iload_n (pc := 12) 1 dX12_warmthOf_12 rfl rfl ?_
  refine r_iload_n (pc := 13) 2 dX12_warmthOf_13 rfl rfl ?_
  refine r_callV_I (pc := 14) (Py := P_X12_holdOf) (n := 2) (As := [.int a1, .int a2]) (fun q e => k_X12_holdOf G _ a0 a1 a2 q e) (c := 13) (Tb := TX12) (N := 58) rfl (by decide) (j0 := 1) rfl tw_1295 tw_1297 tw_35 tw_70 tw_1298 hd_X12_holdOf ⟨Nat.le_of_ble_eq_true rfl, Nat.le_of_ble_eq_true rfl⟩ rfl [1] rfl rfl (Nat.le_of_ble_eq_true rfl) dX12_warmthOf_14 hF (fun M2 r3 hF => ?_)
  refine r_i2l (pc := 17) dX12_warmthOf_17 ?_
  refine r_ldiv (pc := 18) dX12_warmthOf_18 hF (fun hF => ?_)
  exact r_lret (pc := 19) dX12_warmthOf_19 hF
theorem k_X12_warmthOf (G : EG) (M : Mem) (a0 : Nat) (a1 : Int32) (a2 : Int32) (q : Mem × Int64) (h : F_X12_warmthOf M a0 a1 a2 = some q) : Kt yX12_warmthOf P_X12_warmthOf M [(a0, 14)] [.ref a0, .int a1, .int a2] (RJ G q) := Kt.of (by decide +kernel) rfl (Nat.le_of_ble_eq_true rfl) rfl (fun X hz => w_X12_warmthOf M a0 a1 a2 h)
set_option maxHeartbeats 4000000 in
theorem w_X12_two_p65 {X : Option Cx} {G : EG} {res : Mem × Int64} : ∀ (M : Mem) (y0 : Int64), F_X12_two_p65 M y0 = some res → T X (RJ G res) P_X12_two M [] [] [.long y0] 65 := by
  intro M y0 hF
  unfold F_X12_two_p65 at hF
  exact r_lret (pc := 65) dX12_two_65 hF
set_option maxHeartbeats 4000000 in
theorem w_X12_two_p77 {X : Option Cx} {G : EG} {res : Mem × Int64} : ∀ (M : Mem) (y0 : Int64), F_X12_two_p77 M y0 = some res → T X (RJ G res) P_X12_two M [] [] [.long y0] 77 := by
  intro M y0 hF
  unfold F_X12_two_p77 at hF
  exact r_lret (pc := 77) dX12_two_77 hF
set_option maxHeartbeats 4000000 in
theorem w_X12_two_p89 {X : Option Cx} {G : EG} {res : Mem × Int64} : ∀ (M : Mem) (y0 : Int64), F_X12_two_p89 M y0 = some res → T X (RJ G res) P_X12_two M [] [] [.long y0] 89 := by
  intro M y0 hF
  unfold F_X12_two_p89 at hF
  exact r_lret (pc := 89) dX12_two_89 hF
set_option maxHeartbeats 4000000 in
theorem w_X12_two_p101 {X : Option Cx} {G : EG} {res : Mem × Int64} : ∀ (M : Mem) (y0 : Int64), F_X12_two_p101 M y0 = some res → T X (RJ G res) P_X12_two M [] [] [.long y0] 101 := by
  intro M y0 hF
  unfold F_X12_two_p101 at hF
  exact r_lret (pc := 101) dX12_two_101 hF
set_option maxHeartbeats 4000000 in
theorem w_X12_two {X : Option Cx} {G : EG} {res : Mem × Int64} (M : Mem) (a0 : Int32) (a1 : Int64) (a2 : Int64) (hF : F_X12_two M a0 a1 a2 = some res) : T X (RJ G res) P_X12_two M [] [(0, .int a0), (1, .long a1), (3, .long a2)] [] 0 := by
  unfold F_X12_two at hF
  refine r_iload_n (pc := 0) 0 dX12_two_0 rfl rfl ?_
  rcases swi_e (hi := 25) (n := 6) rfl rfl hF with ⟨h9, hF⟩ | ⟨h7, h8, k9, b9, hk9, e9, hb9, hF⟩
  · refine r_tabOut (pc := 1) (tgt := 90) dX12_two_1 h9 rfl ?_
    refine r_lload_n (pc := 90) 1 dX12_two_90 rfl rfl ?_
    refine r_lload_n (pc := 91) 2 dX12_two_91 rfl rfl ?_
    refine r_lcmp (pc := 92) dX12_two_92 ?_
    refine r_if_le (pc := 93) (tgt := 100) dX12_two_93 rfl hF (fun hF => ?_) (fun hF => ?_)
    · refine r_lconst (pc := 100) (w := 0) dX12_two_100 (by decide) ?_
      exact T.sub ((w_X12_two_p101) M (0 : Int64) hF) [] [] rfl rfl
    · refine r_lconst (pc := 96) (w := 1) dX12_two_96 (by decide) ?_
      refine r_goto (pc := 97) (tgt := 101) dX12_two_97 rfl ?_
      exact T.sub ((w_X12_two_p101) M (1 : Int64) hF) [] [] rfl rfl
  · rcases (show k9 = 0 ∨ k9 = 1 ∨ k9 = 2 ∨ k9 = 3 ∨ k9 = 4 ∨ k9 = 5 by omega) with rfl | rfl | rfl | rfl | rfl | rfl
    · cases hb9
      refine r_tabIn (pc := 1) (tgt := 40) dX12_two_1 h7 h8 (by rw [e9]; rfl) rfl ?_
      refine r_lload_n (pc := 40) 1 dX12_two_40 rfl rfl ?_
      refine r_lload_n (pc := 41) 2 dX12_two_41 rfl rfl ?_
      refine r_ladd (pc := 42) dX12_two_42 ?_
      exact r_lret (pc := 43) dX12_two_43 hF
    · cases hb9
      refine r_tabIn (pc := 1) (tgt := 44) dX12_two_1 h7 h8 (by rw [e9]; rfl) rfl ?_
      refine r_lload_n (pc := 44) 1 dX12_two_44 rfl rfl ?_
      refine r_lload_n (pc := 45) 2 dX12_two_45 rfl rfl ?_
      refine r_lsub (pc := 46) dX12_two_46 ?_
      exact r_lret (pc := 47) dX12_two_47 hF
    · cases hb9
      refine r_tabIn (pc := 1) (tgt := 48) dX12_two_1 h7 h8 (by rw [e9]; rfl) rfl ?_
      refine r_lload_n (pc := 48) 1 dX12_two_48 rfl rfl ?_
      refine r_lload_n (pc := 49) 2 dX12_two_49 rfl rfl ?_
      refine r_lmul (pc := 50) dX12_two_50 ?_
      exact r_lret (pc := 51) dX12_two_51 hF
    · cases hb9
      refine r_tabIn (pc := 1) (tgt := 52) dX12_two_1 h7 h8 (by rw [e9]; rfl) rfl ?_
      refine r_lload_n (pc := 52) 2 dX12_two_52 rfl rfl ?_
      refine r_lconst (pc := 53) (w := 0) dX12_two_53 (by decide) ?_
      refine r_lcmp (pc := 54) dX12_two_54 ?_
      refine r_if_ne (pc := 55) (tgt := 62) dX12_two_55 rfl hF (fun hF => ?_) (fun hF => ?_)
      · refine r_lload_n (pc := 62) 1 dX12_two_62 rfl rfl ?_
        refine r_lload_n (pc := 63) 2 dX12_two_63 rfl rfl ?_
        refine r_ldiv (pc := 64) dX12_two_64 hF (fun hF => ?_)
        exact T.sub ((w_X12_two_p65) M (a1 / a2) hF) [] [] rfl rfl
      · refine r_lconst (pc := 58) (w := 0) dX12_two_58 (by decide) ?_
        refine r_goto (pc := 59) (tgt := 65) dX12_two_59 rfl ?_
        exact T.sub ((w_X12_two_p65) M (0 : Int64) hF) [] [] rfl rfl
    · cases hb9
      refine r_tabIn (pc := 1) (tgt := 66) dX12_two_1 h7 h8 (by rw [e9]; rfl) rfl ?_
      refine r_lload_n (pc := 66) 1 dX12_two_66 rfl rfl ?_
      refine r_lload_n (pc := 67) 2 dX12_two_67 rfl rfl ?_
      refine r_lcmp (pc := 68) dX12_two_68 ?_
      refine r_if_ge (pc := 69) (tgt := 76) dX12_two_69 rfl hF (fun hF => ?_) (fun hF => ?_)
      · refine r_lconst (pc := 76) (w := 0) dX12_two_76 (by decide) ?_
        exact T.sub ((w_X12_two_p77) M (0 : Int64) hF) [] [] rfl rfl
      · refine r_lconst (pc := 72) (w := 1) dX12_two_72 (by decide) ?_
        refine r_goto (pc := 73) (tgt := 77) dX12_two_73 rfl ?_
        exact T.sub ((w_X12_two_p77) M (1 : Int64) hF) [] [] rfl rfl
    · cases hb9
      refine r_tabIn (pc := 1) (tgt := 78) dX12_two_1 h7 h8 (by rw [e9]; rfl) rfl ?_
      refine r_lload_n (pc := 78) 1 dX12_two_78 rfl rfl ?_
      refine r_lload_n (pc := 79) 2 dX12_two_79 rfl rfl ?_
      refine r_lcmp (pc := 80) dX12_two_80 ?_
      refine r_if_ne (pc := 81) (tgt := 88) dX12_two_81 rfl hF (fun hF => ?_) (fun hF => ?_)
      · refine r_lconst (pc := 88) (w := 0) dX12_two_88 (by decide) ?_
        exact T.sub ((w_X12_two_p89) M (0 : Int64) hF) [] [] rfl rfl
      · refine r_lconst (pc := 84) (w := 1) dX12_two_84 (by decide) ?_
        refine r_goto (pc := 85) (tgt := 89) dX12_two_85 rfl ?_
        exact T.sub ((w_X12_two_p89) M (1 : Int64) hF) [] [] rfl rfl
theorem k_X12_two (G : EG) (M : Mem) (a0 : Int32) (a1 : Int64) (a2 : Int64) (q : Mem × Int64) (h : F_X12_two M a0 a1 a2 = some q) : Kt yX12_two P_X12_two M [] [.int a0, .long a1, .long a2] (RJ G q) := Kt.of (by decide +kernel) rfl (Nat.le_of_ble_eq_true rfl) rfl (fun X hz => w_X12_two M a0 a1 a2 h)
set_option maxHeartbeats 4000000 in
theorem w_X12_worth_p136 {X : Option Cx} {G : EG} {res : Mem × Int64} {k7 : Mem → Nat → Int32 → Int32 → Int32 → Option (Mem × Int64)} (hk7 : ∀ (M : Mem) (x0 : Nat) (x1 : Int32) (x2 : Int32) (x3 : Int32), k7 M x0 x1 x2 x3 = some res → T X (RJ G res) P_X12_worth M [(x0, 14)] [(0, .ref x0), (1, .int x1), (2, .int x2), (3, .int x3)] [] 7) : ∀ (M : Mem) (x0 : Nat) (x1 : Int32) (x2 : Int32) (x3 : Int32), F_X12_worth_p136 k7 M x0 x1 x2 x3 = some res → T X (RJ G res) P_X12_worth M [(x0, 14)] [(0, .ref x0), (1, .int x1), (2, .int x2), (3, .int x3)] [] 136 := by
  intro M x0 x1 x2 x3 hF
  unfold F_X12_worth_p136 at hF
  obtain ⟨v1, e9, hF⟩ := bnd_e hF
  refine r_iinc (pc := 136) (w := v1) (k := 3) (L1 := [(3, .int v1), (0, .ref x0), (1, .int x1), (2, .int x2)]) dX12_worth_136 rfl (by rw [e9]; rfl) (by decide) rfl ?_
  clear e9
  refine r_goto (pc := 139) (tgt := 7) dX12_worth_139 rfl ?_
  exact T.sub (hk7 M x0 x1 x2 v1 hF) [0] [1, 2, 3, 0] rfl rfl
set_option maxHeartbeats 4000000 in
theorem w_X12_worth_p86 {X : Option Cx} {G : EG} {res : Mem × Int64} {k7 : Mem → Nat → Int32 → Int32 → Int32 → Option (Mem × Int64)} (hk7 : ∀ (M : Mem) (x0 : Nat) (x1 : Int32) (x2 : Int32) (x3 : Int32), k7 M x0 x1 x2 x3 = some res → T X (RJ G res) P_X12_worth M [(x0, 14)] [(0, .ref x0), (1, .int x1), (2, .int x2), (3, .int x3)] [] 7) : ∀ (M : Mem) (x0 : Nat) (x1 : Int32) (x2 : Int32) (x3 : Int32) (y0 : Nat) (y1 : Int32) (y2 : Int64), F_X12_worth_p86 k7 M x0 x1 x2 x3 y0 y1 y2 = some res → T X (RJ G res) P_X12_worth M [(x0, 14), (y0, 21)] [(0, .ref x0), (1, .int x1), (2, .int x2), (3, .int x3)] [.long y2, .int y1, .ref y0] 86 := by
  intro M x0 x1 x2 x3 y0 y1 y2 hF
  unfold F_X12_worth_p86 at hF
  refine r_last (pc := 86) (j := 1) rfl dX12_worth_86 hF (fun M1 hF => ?_)
  obtain ⟨v2, e9, hF⟩ := bnd_e hF
  refine r_iinc (pc := 87) (w := v2) (k := 2) (L1 := [(2, .int v2), (0, .ref x0), (1, .int x1), (3, .int x3)]) dX12_worth_87 rfl (by rw [e9]; rfl) (by decide) rfl ?_
  clear e9
  refine r_goto (pc := 90) (tgt := 136) dX12_worth_90 rfl ?_
  exact T.sub ((w_X12_worth_p136 hk7) M1 x0 x1 v2 x3 hF) [0] [1, 2, 0, 3] rfl rfl
set_option maxHeartbeats 4000000 in
theorem w_X12_worth_p45 {X : Option Cx} {G : EG} {res : Mem × Int64} {k7 : Mem → Nat → Int32 → Int32 → Int32 → Option (Mem × Int64)} (hk7 : ∀ (M : Mem) (x0 : Nat) (x1 : Int32) (x2 : Int32) (x3 : Int32), k7 M x0 x1 x2 x3 = some res → T X (RJ G res) P_X12_worth M [(x0, 14)] [(0, .ref x0), (1, .int x1), (2, .int x2), (3, .int x3)] [] 7) : ∀ (M : Mem) (x0 : Nat) (x1 : Int32) (x2 : Int32) (x3 : Int32), F_X12_worth_p45 k7 M x0 x1 x2 x3 = some res → T X (RJ G res) P_X12_worth M [(x0, 14)] [(0, .ref x0), (1, .int x1), (2, .int x2), (3, .int x3)] [] 45 := by
  intro M x0 x1 x2 x3 hF
  unfold F_X12_worth_p45 at hF
  refine r_aload_n (pc := 45) 0 dX12_worth_45 rfl rfl ?_
  refine gf_X12_112 (pc := 46) (j := 0) rfl dX12_worth_46 ?_
  refine r_lr (by decide) hF (fun b1 hF => ?_)
  refine r_iload_n (pc := 49) 2 dX12_worth_49 rfl rfl ?_
  refine r_aload_n (pc := 50) 0 dX12_worth_50 rfl rfl ?_
  refine gf_X12_90 (pc := 51) (j := 1) rfl dX12_worth_51 ?_
  refine r_lr (by decide) hF (fun b2 hF => ?_)
  refine r_iload_n (pc := 54) 3 dX12_worth_54 rfl rfl ?_
  refine r_iald (pc := 55) (j := 0) rfl dX12_worth_55 hF (fun hF => ?_)
  refine r_bipush (pc := 56) (w := 9) dX12_worth_56 (by decide) ?_
  refine r_icmp_ge (pc := 58) (tgt := 75) dX12_worth_58 rfl hF (fun hF => ?_) (fun hF => ?_)
  · refine r_aload_n (pc := 75) 0 dX12_worth_75 rfl rfl ?_
    refine gf_X12_90 (pc := 76) (j := 2) rfl dX12_worth_76 ?_
    refine r_lr (by decide) hF (fun b3 hF => ?_)
    refine r_iload_n (pc := 79) 3 dX12_worth_79 rfl rfl ?_
    refine r_iald (pc := 80) (j := 0) rfl dX12_worth_80 hF (fun hF => ?_)
    refine r_sipush (pc := 81) (w := 1000) dX12_worth_81 (by decide) ?_
    refine r_isub (pc := 84) dX12_worth_84 ?_
    refine r_i2l (pc := 85) dX12_worth_85 ?_
    exact T.sub ((w_X12_worth_p86 hk7) M x0 x1 x2 x3 b1 x2 (((gA M b3 (ixn x3)) - (1000 : Int32)).toInt64) hF) [3, 2] [0, 1, 2, 3] rfl rfl
  · refine r_aload_n (pc := 61) 0 dX12_worth_61 rfl rfl ?_
    refine gf_X12_109 (pc := 62) (j := 2) rfl dX12_worth_62 ?_
    refine r_lr (by decide) hF (fun b4 hF => ?_)
    refine r_aload_n (pc := 65) 0 dX12_worth_65 rfl rfl ?_
    refine gf_X12_90 (pc := 66) (j := 3) rfl dX12_worth_66 ?_
    refine r_lr (by decide) hF (fun b5 hF => ?_)
    refine r_iload_n (pc := 69) 3 dX12_worth_69 rfl rfl ?_
    refine r_iald (pc := 70) (j := 0) rfl dX12_worth_70 hF (fun hF => ?_)
    refine r_lald (pc := 71) (j := 1) rfl dX12_worth_71 hF (fun hF => ?_)
    refine r_goto (pc := 72) (tgt := 86) dX12_worth_72 rfl ?_
    exact T.sub ((w_X12_worth_p86 hk7) M x0 x1 x2 x3 b1 x2 (gB M b4 (ixn (gA M b5 (ixn x3)))) hF) [4, 3] [0, 1, 2, 3] rfl rfl
set_option maxHeartbeats 4000000 in
theorem w_X12_worth_p7 {X : Option Cx} {G : EG} {res : Mem × Int64} {k142 : Mem → Nat → Option (Mem × Int64)} (hk142 : ∀ (M : Mem) (x0 : Nat), k142 M x0 = some res → T X (RJ G res) P_X12_worth M [(x0, 14)] [(0, .ref x0)] [] 142) : ∀ (n : Nat) (M : Mem) (x0 : Nat) (x1 : Int32) (x2 : Int32) (x3 : Int32), F_X12_worth_p7 k142 n M x0 x1 x2 x3 = some res → T X (RJ G res) P_X12_worth M [(x0, 14)] [(0, .ref x0), (1, .int x1), (2, .int x2), (3, .int x3)] [] 7 := by
  intro n
  induction n with
  | zero =>
    intro M x0 x1 x2 x3 hF
    cases hF
  | succ n ih =>
    intro M x0 x1 x2 x3 hF
    unfold F_X12_worth_p7 at hF
    refine r_iload_n (pc := 7) 3 dX12_worth_7 rfl rfl ?_
    refine r_bipush (pc := 8) (w := 62) dX12_worth_8 (by decide) ?_
    refine r_iload_n (pc := 10) 1 dX12_worth_10 rfl rfl ?_
    refine r_imul (pc := 11) dX12_worth_11 ?_
    refine r_aload_n (pc := 12) 0 dX12_worth_12 rfl rfl ?_
    refine gf_X12_87 (pc := 13) (j := 0) rfl dX12_worth_13 ?_
    refine r_lr (by decide) hF (fun b1 hF => ?_)
    refine r_iload_n (pc := 16) 1 dX12_worth_16 rfl rfl ?_
    refine r_iald (pc := 17) (j := 0) rfl dX12_worth_17 hF (fun hF => ?_)
    refine r_iadd (pc := 18) dX12_worth_18 ?_
    refine r_icmp_ge (pc := 19) (tgt := 142) dX12_worth_19 rfl hF (fun hF => ?_) (fun hF => ?_)
    · exact T.sub (hk142 M x0 hF) [1] [0] rfl rfl
    · refine r_aload_n (pc := 22) 0 dX12_worth_22 rfl rfl ?_
      refine gf_X12_90 (pc := 23) (j := 1) rfl dX12_worth_23 ?_
      refine r_lr (by decide) hF (fun b2 hF => ?_)
      refine r_iload_n (pc := 26) 3 dX12_worth_26 rfl rfl ?_
      refine r_iald (pc := 27) (j := 0) rfl dX12_worth_27 hF (fun hF => ?_)
      refine r_sipush (pc := 28) (w := 1000) dX12_worth_28 (by decide) ?_
      refine r_icmp_ge (pc := 31) (tgt := 45) dX12_worth_31 rfl hF (fun hF => ?_) (fun hF => ?_)
      · exact T.sub ((w_X12_worth_p45 ih) M x0 x1 x2 x3 hF) [2] [0, 1, 2, 3] rfl rfl
      · refine r_aload_n (pc := 34) 0 dX12_worth_34 rfl rfl ?_
        refine gf_X12_90 (pc := 35) (j := 2) rfl dX12_worth_35 ?_
        refine r_lr (by decide) hF (fun b3 hF => ?_)
        refine r_iload_n (pc := 38) 3 dX12_worth_38 rfl rfl ?_
        refine r_iald (pc := 39) (j := 0) rfl dX12_worth_39 hF (fun hF => ?_)
        refine r_bipush (pc := 40) (w := 9) dX12_worth_40 (by decide) ?_
        refine r_icmp_ge (pc := 42) (tgt := 93) dX12_worth_42 rfl hF (fun hF => ?_) (fun hF => ?_)
        · obtain ⟨v4, e9, hF⟩ := bnd_e hF
          refine r_iinc (pc := 93) (w := v4) (k := 2) (L1 := [(2, .int v4), (0, .ref x0), (1, .int x1), (3, .int x3)]) dX12_worth_93 rfl (by rw [e9]; rfl) (by decide) rfl ?_
          clear e9
          refine r_aload_n (pc := 96) 1 dX12_worth_96 rfl rfl ?_
          refine gf_X12_112 (pc := 97) (j := 3) rfl dX12_worth_97 ?_
          refine r_lr (by decide) hF (fun b5 hF => ?_)
          refine r_iload_n (pc := 100) 0 dX12_worth_100 rfl rfl ?_
          refine r_iconst (pc := 101) (w := 1) dX12_worth_101 (by decide) ?_
          refine r_isub (pc := 102) dX12_worth_102 ?_
          refine r_aload_n (pc := 103) 1 dX12_worth_103 rfl rfl ?_
          refine gf_X12_90 (pc := 104) (j := 4) rfl dX12_worth_104 ?_
          refine r_lr (by decide) hF (fun b6 hF => ?_)
          refine r_iload_n (pc := 107) 3 dX12_worth_107 rfl rfl ?_
          refine r_iald (pc := 108) (j := 0) rfl dX12_worth_108 hF (fun hF => ?_)
          refine r_aload_n (pc := 109) 1 dX12_worth_109 rfl rfl ?_
          refine gf_X12_112 (pc := 110) (j := 5) rfl dX12_worth_110 ?_
          refine r_lr (by decide) hF (fun b7 hF => ?_)
          refine r_iload_n (pc := 113) 0 dX12_worth_113 rfl rfl ?_
          refine r_iconst (pc := 114) (w := 1) dX12_worth_114 (by decide) ?_
          refine r_isub (pc := 115) dX12_worth_115 ?_
          refine r_lald (pc := 116) (j := 0) rfl dX12_worth_116 hF (fun hF => ?_)
          refine r_aload_n (pc := 117) 1 dX12_worth_117 rfl rfl ?_
          refine gf_X12_112 (pc := 118) (j := 6) rfl dX12_worth_118 ?_
          refine r_lr (by decide) hF (fun b8 hF => ?_)
          refine r_iload_n (pc := 121) 0 dX12_worth_121 rfl rfl ?_
          refine r_lald (pc := 122) (j := 0) rfl dX12_worth_122 hF (fun hF => ?_)
          refine r_callS_J (pc := 123) (Py := P_X12_two) (n := 3) (As := [.int (gA M b6 (ixn x3)), .long (gB M b7 (ixn (v4 - (1 : Int32)))), .long (gB M b8 (ixn v4))]) (fun q e => k_X12_two G _ (gA M b6 (ixn x3)) (gB M b7 (ixn (v4 - (1 : Int32)))) (gB M b8 (ixn v4)) q e) tw_1309 tw_1310 tw_70 tw_1311 hd_X12_two ⟨Nat.le_of_ble_eq_true rfl, Nat.le_of_ble_eq_true rfl⟩ rfl [] rfl rfl (Nat.le_of_ble_eq_true rfl) dX12_worth_123 hF (fun M9 r10 hF => ?_)
          refine r_ldc2 (pc := 126) (w := -1000000000) tw_1300 dX12_worth_126 ?_
          refine r_ldc2 (pc := 129) (w := 1000000000) tw_1301 dX12_worth_129 ?_
          refine r_callS_J (pc := 132) (Py := P_X12_cut) (n := 3) (As := [.long r10, .long ((-1000000000 : Int64)), .long ((1000000000 : Int64))]) (fun q e => k_X12_cut G _ r10 (-1000000000 : Int64) (1000000000 : Int64) q e) tw_1302 tw_1303 tw_70 tw_1304 hd_X12_cut ⟨Nat.le_of_ble_eq_true rfl, Nat.le_of_ble_eq_true rfl⟩ rfl [] rfl rfl (Nat.le_of_ble_eq_true rfl) dX12_worth_132 hF (fun M11 r12 hF => ?_)
          refine r_last (pc := 135) (j := 3) rfl dX12_worth_135 hF (fun M13 hF => ?_)
          exact T.sub ((w_X12_worth_p136 ih) M13 x0 x1 v4 x3 hF) [7] [1, 2, 0, 3] rfl rfl
        · exact T.sub ((w_X12_worth_p45 ih) M x0 x1 x2 x3 hF) [3] [0, 1, 2, 3] rfl rfl
set_option maxHeartbeats 4000000 in
theorem w_X12_worth_p142 {X : Option Cx} {G : EG} {res : Mem × Int64} : ∀ (M : Mem) (x0 : Nat), F_X12_worth_p142 M x0 = some res → T X (RJ G res) P_X12_worth M [(x0, 14)] [(0, .ref x0)] [] 142 := by
  intro M x0 hF
  unfold F_X12_worth_p142 at hF
  refine r_aload_n (pc := 142) 0 dX12_worth_142 rfl rfl ?_
  refine gf_X12_112 (pc := 143) (j := 0) rfl dX12_worth_143 ?_
  refine r_lr (by decide) hF (fun b1 hF => ?_)
  refine r_iconst (pc := 146) (w := 0) dX12_worth_146 (by decide) ?_
  refine r_lald (pc := 147) (j := 0) rfl dX12_worth_147 hF (fun hF => ?_)
  exact r_lret (pc := 148) dX12_worth_148 hF
set_option maxHeartbeats 4000000 in
theorem w_X12_worth {X : Option Cx} {G : EG} {res : Mem × Int64} (M : Mem) (a0 : Nat) (a1 : Int32) (hF : F_X12_worth M a0 a1 = some res) : T X (RJ G res) P_X12_worth M [(a0, 14)] [(0, .ref a0), (1, .int a1)] [] 0 := by
  unfold F_X12_worth at hF
  refine r_iconst (pc := 0) (w := 0) dX12_worth_0 (by decide) ?_
  refine r_istore_n (pc := 1) (L1 := [(2, .int ((0 : Int32))), (0, .ref a0), (1, .int a1)]) dX12_worth_1 rfl (by decide) rfl ?_
  refine r_bipush (pc := 2) (w := 62) dX12_worth_2 (by decide) ?_
  refine r_iload_n (pc := 4) 2 dX12_worth_4 rfl rfl ?_
  refine r_imul (pc := 5) dX12_worth_5 ?_
  refine r_gI (pc := 6) hF (fun v1 hF => ?_)
  refine r_istore_n (pc := 6) (L1 := [(3, .int v1), (2, .int ((0 : Int32))), (0, .ref a0), (1, .int a1)]) dX12_worth_6 rfl (by decide) rfl ?_
  exact T.sub ((w_X12_worth_p7 (w_X12_worth_p142) FU) M a0 a1 (0 : Int32) v1 hF) [0] [2, 3, 1, 0] rfl rfl
theorem k_X12_worth (G : EG) (M : Mem) (a0 : Nat) (a1 : Int32) (q : Mem × Int64) (h : F_X12_worth M a0 a1 = some q) : Kt yX12_worth P_X12_worth M [(a0, 14)] [.ref a0, .int a1] (RJ G q) := Kt.of (by decide +kernel) rfl (Nat.le_of_ble_eq_true rfl) rfl (fun X hz => w_X12_worth M a0 a1 h)
set_option maxHeartbeats 4000000 in
theorem w_X12_mayOf_p86 {X : Option Cx} {G : EG} {res : Mem × Int64} {k14 : Mem → Nat → Int32 → Int32 → Int32 → Int32 → Int32 → Option (Mem × Int64)} (hk14 : ∀ (M : Mem) (x0 : Nat) (x1 : Int32) (x2 : Int32) (x3 : Int32) (x4 : Int32) (x5 : Int32), k14 M x0 x1 x2 x3 x4 x5 = some res → T X (RJ G res) P_X12_mayOf M [(x0, 14)] [(0, .ref x0), (1, .int x1), (2, .int x2), (3, .int x3), (4, .int x4), (5, .int x5)] [] 14) : ∀ (M : Mem) (x0 : Nat) (x1 : Int32) (x2 : Int32) (x3 : Int32) (x5 : Int32) (y0 : Int32), F_X12_mayOf_p86 k14 M x0 x1 x2 x3 x5 y0 = some res → T X (RJ G res) P_X12_mayOf M [(x0, 14)] [(0, .ref x0), (1, .int x1), (2, .int x2), (3, .int x3), (5, .int x5)] [.int y0] 86 := by
  intro M x0 x1 x2 x3 x5 y0 hF
  unfold F_X12_mayOf_p86 at hF
  refine r_istore (pc := 86) (L1 := [(4, .int y0), (0, .ref x0), (1, .int x1), (2, .int x2), (3, .int x3), (5, .int x5)]) dX12_mayOf_86 (by decide) rfl ?_
  obtain ⟨v1, e9, hF⟩ := bnd_e hF
  refine r_iinc (pc := 88) (w := v1) (k := 5) (L1 := [(5, .int v1), (4, .int y0), (0, .ref x0), (1, .int x1), (2, .int x2), (3, .int x3)]) dX12_mayOf_88 rfl (by rw [e9]; rfl) (by decide) rfl ?_
  clear e9
  refine r_goto (pc := 91) (tgt := 14) dX12_mayOf_91 rfl ?_
  exact T.sub (hk14 M x0 x1 x2 x3 y0 v1 hF) [0] [2, 3, 4, 5, 1, 0] rfl rfl
set_option maxHeartbeats 4000000 in
theorem w_X12_mayOf_p79 {X : Option Cx} {G : EG} {res : Mem × Int64} {k14 : Mem → Nat → Int32 → Int32 → Int32 → Int32 → Int32 → Option (Mem × Int64)} (hk14 : ∀ (M : Mem) (x0 : Nat) (x1 : Int32) (x2 : Int32) (x3 : Int32) (x4 : Int32) (x5 : Int32), k14 M x0 x1 x2 x3 x4 x5 = some res → T X (RJ G res) P_X12_mayOf M [(x0, 14)] [(0, .ref x0), (1, .int x1), (2, .int x2), (3, .int x3), (4, .int x4), (5, .int x5)] [] 14) : ∀ (M : Mem) (x0 : Nat) (x1 : Int32) (x2 : Int32) (x3 : Int32) (x5 : Int32), F_X12_mayOf_p79 k14 M x0 x1 x2 x3 x5 = some res → T X (RJ G res) P_X12_mayOf M [(x0, 14)] [(0, .ref x0), (1, .int x1), (2, .int x2), (3, .int x3), (5, .int x5)] [] 79 := by
  intro M x0 x1 x2 x3 x5 hF
  unfold F_X12_mayOf_p79 at hF
  refine r_iload (pc := 79) 4 dX12_mayOf_79 rfl ?_
  refine r_goto (pc := 81) (tgt := 86) dX12_mayOf_81 rfl ?_
  exact T.sub ((w_X12_mayOf_p86 hk14) M x0 x1 x2 x3 x5 x5 hF) [0] [0, 1, 2, 3, 4] rfl rfl
set_option maxHeartbeats 4000000 in
theorem w_X12_mayOf_p84 {X : Option Cx} {G : EG} {res : Mem × Int64} {k14 : Mem → Nat → Int32 → Int32 → Int32 → Int32 → Int32 → Option (Mem × Int64)} (hk14 : ∀ (M : Mem) (x0 : Nat) (x1 : Int32) (x2 : Int32) (x3 : Int32) (x4 : Int32) (x5 : Int32), k14 M x0 x1 x2 x3 x4 x5 = some res → T X (RJ G res) P_X12_mayOf M [(x0, 14)] [(0, .ref x0), (1, .int x1), (2, .int x2), (3, .int x3), (4, .int x4), (5, .int x5)] [] 14) : ∀ (M : Mem) (x0 : Nat) (x1 : Int32) (x2 : Int32) (x3 : Int32) (x4 : Int32) (x5 : Int32), F_X12_mayOf_p84 k14 M x0 x1 x2 x3 x4 x5 = some res → T X (RJ G res) P_X12_mayOf M [(x0, 14)] [(0, .ref x0), (1, .int x1), (2, .int x2), (3, .int x3), (4, .int x4), (5, .int x5)] [] 84 := by
  intro M x0 x1 x2 x3 x4 x5 hF
  unfold F_X12_mayOf_p84 at hF
  refine r_iload (pc := 84) 4 dX12_mayOf_84 rfl ?_
  exact T.sub ((w_X12_mayOf_p86 hk14) M x0 x1 x2 x3 x5 x4 hF) [0] [0, 1, 2, 3, 5] rfl rfl
set_option maxHeartbeats 4000000 in
theorem w_X12_mayOf_p50 {X : Option Cx} {G : EG} {res : Mem × Int64} {k14 : Mem → Nat → Int32 → Int32 → Int32 → Int32 → Int32 → Option (Mem × Int64)} (hk14 : ∀ (M : Mem) (x0 : Nat) (x1 : Int32) (x2 : Int32) (x3 : Int32) (x4 : Int32) (x5 : Int32), k14 M x0 x1 x2 x3 x4 x5 = some res → T X (RJ G res) P_X12_mayOf M [(x0, 14)] [(0, .ref x0), (1, .int x1), (2, .int x2), (3, .int x3), (4, .int x4), (5, .int x5)] [] 14) : ∀ (M : Mem) (x0 : Nat) (x1 : Int32) (x2 : Int32) (x3 : Int32) (x4 : Int32) (x5 : Int32) (y0 : Int32), F_X12_mayOf_p50 k14 M x0 x1 x2 x3 x4 x5 y0 = some res → T X (RJ G res) P_X12_mayOf M [(x0, 14)] [(0, .ref x0), (1, .int x1), (2, .int x2), (3, .int x3), (4, .int x4), (5, .int x5)] [.int y0] 50 := by
  intro M x0 x1 x2 x3 x4 x5 y0 hF
  unfold F_X12_mayOf_p50 at hF
  refine r_istore (pc := 50) (L1 := [(6, .int y0), (0, .ref x0), (1, .int x1), (2, .int x2), (3, .int x3), (4, .int x4), (5, .int x5)]) dX12_mayOf_50 (by decide) rfl ?_
  refine r_iload (pc := 52) 0 dX12_mayOf_52 rfl ?_
  refine r_if_eq (pc := 54) (tgt := 84) dX12_mayOf_54 rfl hF (fun hF => ?_) (fun hF => ?_)
  · exact T.sub ((w_X12_mayOf_p84 hk14) M x0 x1 x2 x3 x4 x5 hF) [0] [1, 2, 3, 4, 5, 6] rfl rfl
  · refine r_iload (pc := 57) 5 dX12_mayOf_57 rfl ?_
    refine r_if_lt (pc := 59) (tgt := 79) dX12_mayOf_59 rfl hF (fun hF => ?_) (fun hF => ?_)
    · exact T.sub ((w_X12_mayOf_p79 hk14) M x0 x1 x2 x3 x5 hF) [0] [1, 2, 3, 4, 6] rfl rfl
    · refine r_aload_n (pc := 62) 1 dX12_mayOf_62 rfl rfl ?_
      refine gf_X12_84 (pc := 63) (j := 0) rfl dX12_mayOf_63 ?_
      refine r_lr (by decide) hF (fun b1 hF => ?_)
      refine r_iload (pc := 66) 6 dX12_mayOf_66 rfl ?_
      refine r_iald (pc := 68) (j := 0) rfl dX12_mayOf_68 hF (fun hF => ?_)
      refine r_aload_n (pc := 69) 1 dX12_mayOf_69 rfl rfl ?_
      refine gf_X12_84 (pc := 70) (j := 1) rfl dX12_mayOf_70 ?_
      refine r_lr (by decide) hF (fun b2 hF => ?_)
      refine r_iload (pc := 73) 5 dX12_mayOf_73 rfl ?_
      refine r_iald (pc := 75) (j := 0) rfl dX12_mayOf_75 hF (fun hF => ?_)
      refine r_icmp_lt (pc := 76) (tgt := 84) dX12_mayOf_76 rfl hF (fun hF => ?_) (fun hF => ?_)
      · exact T.sub ((w_X12_mayOf_p84 hk14) M x0 x1 x2 x3 x4 x5 hF) [2] [1, 2, 3, 4, 5, 6] rfl rfl
      · exact T.sub ((w_X12_mayOf_p79 hk14) M x0 x1 x2 x3 x5 hF) [2] [1, 2, 3, 4, 6] rfl rfl
set_option maxHeartbeats 4000000 in
theorem w_X12_mayOf_p49 {X : Option Cx} {G : EG} {res : Mem × Int64} {k14 : Mem → Nat → Int32 → Int32 → Int32 → Int32 → Int32 → Option (Mem × Int64)} (hk14 : ∀ (M : Mem) (x0 : Nat) (x1 : Int32) (x2 : Int32) (x3 : Int32) (x4 : Int32) (x5 : Int32), k14 M x0 x1 x2 x3 x4 x5 = some res → T X (RJ G res) P_X12_mayOf M [(x0, 14)] [(0, .ref x0), (1, .int x1), (2, .int x2), (3, .int x3), (4, .int x4), (5, .int x5)] [] 14) : ∀ (M : Mem) (x0 : Nat) (x1 : Int32) (x2 : Int32) (x3 : Int32) (x4 : Int32) (x5 : Int32), F_X12_mayOf_p49 k14 M x0 x1 x2 x3 x4 x5 = some res → T X (RJ G res) P_X12_mayOf M [(x0, 14)] [(0, .ref x0), (1, .int x1), (2, .int x2), (3, .int x3), (4, .int x4), (5, .int x5)] [] 49 := by
  intro M x0 x1 x2 x3 x4 x5 hF
  unfold F_X12_mayOf_p49 at hF
  refine r_iconst (pc := 49) (w := 0) dX12_mayOf_49 (by decide) ?_
  exact T.sub ((w_X12_mayOf_p50 hk14) M x0 x1 x2 x3 x4 x5 (0 : Int32) hF) [0] [0, 1, 2, 3, 4, 5] rfl rfl
set_option maxHeartbeats 4000000 in
theorem w_X12_mayOf_p14 {X : Option Cx} {G : EG} {res : Mem × Int64} {k94 : Mem → Nat → Int32 → Int32 → Int32 → Option (Mem × Int64)} (hk94 : ∀ (M : Mem) (x0 : Nat) (x1 : Int32) (x3 : Int32) (x4 : Int32), k94 M x0 x1 x3 x4 = some res → T X (RJ G res) P_X12_mayOf M [(x0, 14)] [(0, .ref x0), (1, .int x1), (3, .int x3), (4, .int x4)] [] 94) : ∀ (n : Nat) (M : Mem) (x0 : Nat) (x1 : Int32) (x2 : Int32) (x3 : Int32) (x4 : Int32) (x5 : Int32), F_X12_mayOf_p14 k94 n M x0 x1 x2 x3 x4 x5 = some res → T X (RJ G res) P_X12_mayOf M [(x0, 14)] [(0, .ref x0), (1, .int x1), (2, .int x2), (3, .int x3), (4, .int x4), (5, .int x5)] [] 14 := by
  intro n
  induction n with
  | zero =>
    intro M x0 x1 x2 x3 x4 x5 hF
    cases hF
  | succ n ih =>
    intro M x0 x1 x2 x3 x4 x5 hF
    unfold F_X12_mayOf_p14 at hF
    refine r_iload (pc := 14) 5 dX12_mayOf_14 rfl ?_
    refine r_aload_n (pc := 16) 0 dX12_mayOf_16 rfl rfl ?_
    refine gf_X12_232 (pc := 17) (j := 0) rfl dX12_mayOf_17 ?_
    refine r_icmp_ge (pc := 20) (tgt := 94) dX12_mayOf_20 rfl hF (fun hF => ?_) (fun hF => ?_)
    · exact T.sub (hk94 M x0 x1 x3 x4 hF) [0] [0, 1, 3, 4] rfl rfl
    · refine r_aload_n (pc := 23) 0 dX12_mayOf_23 rfl rfl ?_
      refine gf_X12_81 (pc := 24) (j := 0) rfl dX12_mayOf_24 ?_
      refine r_lr (by decide) hF (fun b1 hF => ?_)
      refine r_iload (pc := 27) 5 dX12_mayOf_27 rfl ?_
      refine r_iald (pc := 29) (j := 0) rfl dX12_mayOf_29 hF (fun hF => ?_)
      refine r_iload_n (pc := 30) 2 dX12_mayOf_30 rfl rfl ?_
      refine r_icmp_ne (pc := 31) (tgt := 49) dX12_mayOf_31 rfl hF (fun hF => ?_) (fun hF => ?_)
      · exact T.sub ((w_X12_mayOf_p49 ih) M x0 x1 x2 x3 x4 x5 hF) [1] [0, 1, 2, 3, 4, 5] rfl rfl
      · refine r_aload_n (pc := 34) 0 dX12_mayOf_34 rfl rfl ?_
        refine gf_X12_84 (pc := 35) (j := 1) rfl dX12_mayOf_35 ?_
        refine r_lr (by decide) hF (fun b2 hF => ?_)
        refine r_iload (pc := 38) 5 dX12_mayOf_38 rfl ?_
        refine r_iald (pc := 40) (j := 0) rfl dX12_mayOf_40 hF (fun hF => ?_)
        refine r_iload_n (pc := 41) 3 dX12_mayOf_41 rfl rfl ?_
        refine r_icmp_gt (pc := 42) (tgt := 49) dX12_mayOf_42 rfl hF (fun hF => ?_) (fun hF => ?_)
        · exact T.sub ((w_X12_mayOf_p49 ih) M x0 x1 x2 x3 x4 x5 hF) [2] [0, 1, 2, 3, 4, 5] rfl rfl
        · refine r_iconst (pc := 45) (w := 1) dX12_mayOf_45 (by decide) ?_
          refine r_goto (pc := 46) (tgt := 50) dX12_mayOf_46 rfl ?_
          exact T.sub ((w_X12_mayOf_p50 ih) M x0 x1 x2 x3 x4 x5 (1 : Int32) hF) [2] [0, 1, 2, 3, 4, 5] rfl rfl
set_option maxHeartbeats 4000000 in
theorem w_X12_mayOf_p238 {X : Option Cx} {G : EG} {res : Mem × Int64} {k274 : Mem → Nat → Int32 → Option (Mem × Int64)} (hk274 : ∀ (M : Mem) (x0 : Nat) (x4 : Int32), k274 M x0 x4 = some res → T X (RJ G res) P_X12_mayOf M [(x0, 14)] [(0, .ref x0), (4, .int x4)] [] 274) : ∀ (n : Nat) (M : Mem) (x0 : Nat) (x4 : Int32) (x5 : Int32), F_X12_mayOf_p238 k274 n M x0 x4 x5 = some res → T X (RJ G res) P_X12_mayOf M [(x0, 14)] [(0, .ref x0), (4, .int x4), (5, .int x5)] [] 238 := by
  intro n
  induction n with
  | zero =>
    intro M x0 x4 x5 hF
    cases hF
  | succ n ih =>
    intro M x0 x4 x5 hF
    unfold F_X12_mayOf_p238 at hF
    refine r_iload (pc := 238) 2 dX12_mayOf_238 rfl ?_
    refine r_bipush (pc := 240) (w := 9) dX12_mayOf_240 (by decide) ?_
    refine r_icmp_ge (pc := 242) (tgt := 274) dX12_mayOf_242 rfl hF (fun hF => ?_) (fun hF => ?_)
    · exact T.sub (hk274 M x0 x4 hF) [0] [0, 1] rfl rfl
    · refine r_aload_n (pc := 245) 0 dX12_mayOf_245 rfl rfl ?_
      refine gf_X12_109 (pc := 246) (j := 0) rfl dX12_mayOf_246 ?_
      refine r_lr (by decide) hF (fun b1 hF => ?_)
      refine r_iload (pc := 249) 2 dX12_mayOf_249 rfl ?_
      refine r_aload_n (pc := 251) 0 dX12_mayOf_251 rfl rfl ?_
      refine gf_X12_109 (pc := 252) (j := 1) rfl dX12_mayOf_252 ?_
      refine r_lr (by decide) hF (fun b2 hF => ?_)
      refine r_iload (pc := 255) 2 dX12_mayOf_255 rfl ?_
      refine r_lald (pc := 257) (j := 0) rfl dX12_mayOf_257 hF (fun hF => ?_)
      refine r_ldc2 (pc := 258) (w := -1000000000) tw_1300 dX12_mayOf_258 ?_
      refine r_ldc2 (pc := 261) (w := 1000000000) tw_1301 dX12_mayOf_261 ?_
      refine r_callS_J (pc := 264) (Py := P_X12_cut) (n := 3) (As := [.long (gB M b2 (ixn x5)), .long ((-1000000000 : Int64)), .long ((1000000000 : Int64))]) (fun q e => k_X12_cut G _ (gB M b2 (ixn x5)) (-1000000000 : Int64) (1000000000 : Int64) q e) tw_1302 tw_1303 tw_70 tw_1304 hd_X12_cut ⟨Nat.le_of_ble_eq_true rfl, Nat.le_of_ble_eq_true rfl⟩ rfl [] rfl rfl (Nat.le_of_ble_eq_true rfl) dX12_mayOf_264 hF (fun M3 r4 hF => ?_)
      refine r_last (pc := 267) (j := 1) rfl dX12_mayOf_267 hF (fun M5 hF => ?_)
      obtain ⟨v6, e9, hF⟩ := bnd_e hF
      refine r_iinc (pc := 268) (w := v6) (k := 2) (L1 := [(5, .int v6), (0, .ref x0), (4, .int x4)]) dX12_mayOf_268 rfl (by rw [e9]; rfl) (by decide) rfl ?_
      clear e9
      refine r_goto (pc := 271) (tgt := 238) dX12_mayOf_271 rfl ?_
      exact T.sub (ih M5 x0 x4 v6 hF) [2] [1, 2, 0] rfl rfl
set_option maxHeartbeats 4000000 in
theorem w_X12_mayOf_p274 {X : Option Cx} {G : EG} {res : Mem × Int64} : ∀ (M : Mem) (x0 : Nat) (x4 : Int32), F_X12_mayOf_p274 M x0 x4 = some res → T X (RJ G res) P_X12_mayOf M [(x0, 14)] [(0, .ref x0), (4, .int x4)] [] 274 := by
  intro M x0 x4 hF
  unfold F_X12_mayOf_p274 at hF
  refine r_aload_n (pc := 274) 0 dX12_mayOf_274 rfl rfl ?_
  refine r_iload (pc := 275) 1 dX12_mayOf_275 rfl ?_
  refine r_callV_J (pc := 277) (Py := P_X12_worth) (n := 1) (As := [.int x4]) (fun q e => k_X12_worth G _ x0 x4 q e) (c := 13) (Tb := TX12) (N := 58) rfl (by decide) (j0 := 0) rfl tw_1305 tw_1307 tw_36 tw_70 tw_1308 hd_X12_worth ⟨Nat.le_of_ble_eq_true rfl, Nat.le_of_ble_eq_true rfl⟩ rfl [0] rfl rfl (Nat.le_of_ble_eq_true rfl) dX12_mayOf_277 hF (fun M1 r2 hF => ?_)
  refine r_lconst (pc := 280) (w := 0) dX12_mayOf_280 (by decide) ?_
  refine r_ldc2 (pc := 281) (w := 99999) tw_1312 dX12_mayOf_281 ?_
  refine r_callS_J (pc := 284) (Py := P_X12_cut) (n := 3) (As := [.long r2, .long ((0 : Int64)), .long ((99999 : Int64))]) (fun q e => k_X12_cut G _ r2 (0 : Int64) (99999 : Int64) q e) tw_1302 tw_1303 tw_70 tw_1304 hd_X12_cut ⟨Nat.le_of_ble_eq_true rfl, Nat.le_of_ble_eq_true rfl⟩ rfl [] rfl rfl (Nat.le_of_ble_eq_true rfl) dX12_mayOf_284 hF (fun M3 r4 hF => ?_)
  exact r_lret (pc := 287) dX12_mayOf_287 hF
set_option maxHeartbeats 4000000 in
theorem w_X12_mayOf_p94 {X : Option Cx} {G : EG} {res : Mem × Int64} : ∀ (M : Mem) (x0 : Nat) (x1 : Int32) (x3 : Int32) (x4 : Int32), F_X12_mayOf_p94 M x0 x1 x3 x4 = some res → T X (RJ G res) P_X12_mayOf M [(x0, 14)] [(0, .ref x0), (1, .int x1), (3, .int x3), (4, .int x4)] [] 94 := by
  intro M x0 x1 x3 x4 hF
  unfold F_X12_mayOf_p94 at hF
  refine r_iload (pc := 94) 3 dX12_mayOf_94 rfl ?_
  refine r_if_ge (pc := 96) (tgt := 101) dX12_mayOf_96 rfl hF (fun hF => ?_) (fun hF => ?_)
  · refine r_aload_n (pc := 101) 0 dX12_mayOf_101 rfl rfl ?_
    refine gf_X12_109 (pc := 102) (j := 0) rfl dX12_mayOf_102 ?_
    refine r_lr (by decide) hF (fun b1 hF => ?_)
    refine r_iconst (pc := 105) (w := 0) dX12_mayOf_105 (by decide) ?_
    refine r_aload_n (pc := 106) 0 dX12_mayOf_106 rfl rfl ?_
    refine gf_X12_167 (pc := 107) (j := 1) rfl dX12_mayOf_107 ?_
    refine r_bipush (pc := 110) (w := 24) dX12_mayOf_110 (by decide) ?_
    refine r_iremc (pc := 112) dX12_mayOf_112 (by decide) ?_
    refine r_i2l (pc := 113) dX12_mayOf_113 ?_
    refine r_last (pc := 114) (j := 0) rfl dX12_mayOf_114 hF (fun M2 hF => ?_)
    refine r_aload_n (pc := 115) 0 dX12_mayOf_115 rfl rfl ?_
    refine gf_X12_109 (pc := 116) (j := 1) rfl dX12_mayOf_116 ?_
    refine r_lr (by decide) hF (fun b3 hF => ?_)
    refine r_iconst (pc := 119) (w := 1) dX12_mayOf_119 (by decide) ?_
    refine r_iload_n (pc := 120) 2 dX12_mayOf_120 rfl rfl ?_
    refine r_i2l (pc := 121) dX12_mayOf_121 ?_
    refine r_last (pc := 122) (j := 0) rfl dX12_mayOf_122 hF (fun M4 hF => ?_)
    refine r_aload_n (pc := 123) 0 dX12_mayOf_123 rfl rfl ?_
    refine gf_X12_109 (pc := 124) (j := 2) rfl dX12_mayOf_124 ?_
    refine r_lr (by decide) hF (fun b5 hF => ?_)
    refine r_iconst (pc := 127) (w := 2) dX12_mayOf_127 (by decide) ?_
    refine r_aload_n (pc := 128) 0 dX12_mayOf_128 rfl rfl ?_
    refine gf_X12_72 (pc := 129) (j := 3) rfl dX12_mayOf_129 ?_
    refine r_lr (by decide) hF (fun b6 hF => ?_)
    refine r_aload_n (pc := 132) 0 dX12_mayOf_132 rfl rfl ?_
    refine gf_X12_167 (pc := 133) (j := 4) rfl dX12_mayOf_133 ?_
    refine r_bipush (pc := 136) (w := 24) dX12_mayOf_136 (by decide) ?_
    refine r_iremc (pc := 138) dX12_mayOf_138 (by decide) ?_
    refine r_iald (pc := 139) (j := 0) rfl dX12_mayOf_139 hF (fun hF => ?_)
    refine r_i2l (pc := 140) dX12_mayOf_140 ?_
    refine r_last (pc := 141) (j := 1) rfl dX12_mayOf_141 hF (fun M7 hF => ?_)
    refine r_aload_n (pc := 142) 0 dX12_mayOf_142 rfl rfl ?_
    refine gf_X12_109 (pc := 143) (j := 4) rfl dX12_mayOf_143 ?_
    refine r_lr (by decide) hF (fun b8 hF => ?_)
    refine r_iconst (pc := 146) (w := 3) dX12_mayOf_146 (by decide) ?_
    refine r_aload_n (pc := 147) 0 dX12_mayOf_147 rfl rfl ?_
    refine gf_X12_63 (pc := 148) (j := 5) rfl dX12_mayOf_148 ?_
    refine r_lr (by decide) hF (fun b9 hF => ?_)
    refine r_iload_n (pc := 151) 2 dX12_mayOf_151 rfl rfl ?_
    refine r_bipush (pc := 152) (w := 12) dX12_mayOf_152 (by decide) ?_
    refine r_iremc (pc := 154) dX12_mayOf_154 (by decide) ?_
    refine r_iald (pc := 155) (j := 0) rfl dX12_mayOf_155 hF (fun hF => ?_)
    refine r_i2l (pc := 156) dX12_mayOf_156 ?_
    refine r_last (pc := 157) (j := 1) rfl dX12_mayOf_157 hF (fun M10 hF => ?_)
    refine r_aload_n (pc := 158) 0 dX12_mayOf_158 rfl rfl ?_
    refine gf_X12_109 (pc := 159) (j := 6) rfl dX12_mayOf_159 ?_
    refine r_lr (by decide) hF (fun b11 hF => ?_)
    refine r_iconst (pc := 162) (w := 4) dX12_mayOf_162 (by decide) ?_
    refine r_aload_n (pc := 163) 0 dX12_mayOf_163 rfl rfl ?_
    refine r_aload_n (pc := 164) 0 dX12_mayOf_164 rfl rfl ?_
    refine gf_X12_167 (pc := 165) (j := 7) rfl dX12_mayOf_165 ?_
    refine r_callV_J (pc := 168) (Py := P_X12_needOf) (n := 1) (As := [.int (gI M10 1301 x0)]) (fun q e => k_X12_needOf G _ x0 (gI M10 1301 x0) q e) (c := 13) (Tb := TX12) (N := 58) rfl (by decide) (j0 := 7) rfl tw_1282 tw_1284 tw_32 tw_70 tw_1285 hd_X12_needOf ⟨Nat.le_of_ble_eq_true rfl, Nat.le_of_ble_eq_true rfl⟩ rfl [7] rfl rfl (Nat.le_of_ble_eq_true rfl) dX12_mayOf_168 hF (fun M12 r13 hF => ?_)
    refine r_last (pc := 171) (j := 0) rfl dX12_mayOf_171 hF (fun M14 hF => ?_)
    refine r_aload_n (pc := 172) 0 dX12_mayOf_172 rfl rfl ?_
    refine gf_X12_109 (pc := 173) (j := 7) rfl dX12_mayOf_173 ?_
    refine r_lr (by decide) hF (fun b15 hF => ?_)
    refine r_iconst (pc := 176) (w := 5) dX12_mayOf_176 (by decide) ?_
    refine r_aload_n (pc := 177) 0 dX12_mayOf_177 rfl rfl ?_
    refine r_iload_n (pc := 178) 1 dX12_mayOf_178 rfl rfl ?_
    refine r_iconst (pc := 179) (w := 0) dX12_mayOf_179 (by decide) ?_
    refine r_callV_J (pc := 180) (Py := P_X12_warmthOf) (n := 2) (As := [.int x1, .int ((0 : Int32))]) (fun q e => k_X12_warmthOf G _ x0 x1 (0 : Int32) q e) (c := 13) (Tb := TX12) (N := 58) rfl (by decide) (j0 := 8) rfl tw_1291 tw_1293 tw_34 tw_70 tw_1294 hd_X12_warmthOf ⟨Nat.le_of_ble_eq_true rfl, Nat.le_of_ble_eq_true rfl⟩ rfl [8] rfl rfl (Nat.le_of_ble_eq_true rfl) dX12_mayOf_180 hF (fun M16 r17 hF => ?_)
    refine r_ldc2 (pc := 183) (w := 1000) tw_1299 dX12_mayOf_183 ?_
    refine r_ldivc (pc := 186) dX12_mayOf_186 (by decide) ?_
    refine r_last (pc := 187) (j := 0) rfl dX12_mayOf_187 hF (fun M18 hF => ?_)
    refine r_aload_n (pc := 188) 0 dX12_mayOf_188 rfl rfl ?_
    refine gf_X12_109 (pc := 189) (j := 8) rfl dX12_mayOf_189 ?_
    refine r_lr (by decide) hF (fun b19 hF => ?_)
    refine r_bipush (pc := 192) (w := 6) dX12_mayOf_192 (by decide) ?_
    refine r_aload_n (pc := 194) 0 dX12_mayOf_194 rfl rfl ?_
    refine r_iload_n (pc := 195) 1 dX12_mayOf_195 rfl rfl ?_
    refine r_aload_n (pc := 196) 0 dX12_mayOf_196 rfl rfl ?_
    refine gf_X12_19 (pc := 197) (j := 9) rfl dX12_mayOf_197 ?_
    refine r_lr (by decide) hF (fun b20 hF => ?_)
    refine r_iload_n (pc := 200) 1 dX12_mayOf_200 rfl rfl ?_
    refine r_iald (pc := 201) (j := 0) rfl dX12_mayOf_201 hF (fun hF => ?_)
    refine r_iconst (pc := 202) (w := 1) dX12_mayOf_202 (by decide) ?_
    refine r_isub (pc := 203) dX12_mayOf_203 ?_
    refine r_callV_J (pc := 204) (Py := P_X12_warmthOf) (n := 2) (As := [.int x1, .int ((gA M18 b20 (ixn x1)) - (1 : Int32))]) (fun q e => k_X12_warmthOf G _ x0 x1 ((gA M18 b20 (ixn x1)) - (1 : Int32)) q e) (c := 13) (Tb := TX12) (N := 58) rfl (by decide) (j0 := 10) rfl tw_1291 tw_1293 tw_34 tw_70 tw_1294 hd_X12_warmthOf ⟨Nat.le_of_ble_eq_true rfl, Nat.le_of_ble_eq_true rfl⟩ rfl [10] rfl rfl (Nat.le_of_ble_eq_true rfl) dX12_mayOf_204 hF (fun M21 r22 hF => ?_)
    refine r_ldc2 (pc := 207) (w := 1000) tw_1299 dX12_mayOf_207 ?_
    refine r_ldivc (pc := 210) dX12_mayOf_210 (by decide) ?_
    refine r_last (pc := 211) (j := 1) rfl dX12_mayOf_211 hF (fun M23 hF => ?_)
    refine r_aload_n (pc := 212) 0 dX12_mayOf_212 rfl rfl ?_
    refine gf_X12_109 (pc := 213) (j := 10) rfl dX12_mayOf_213 ?_
    refine r_lr (by decide) hF (fun b24 hF => ?_)
    refine r_bipush (pc := 216) (w := 7) dX12_mayOf_216 (by decide) ?_
    refine r_iload_n (pc := 218) 1 dX12_mayOf_218 rfl rfl ?_
    refine r_i2l (pc := 219) dX12_mayOf_219 ?_
    refine r_last (pc := 220) (j := 0) rfl dX12_mayOf_220 hF (fun M25 hF => ?_)
    refine r_aload_n (pc := 221) 0 dX12_mayOf_221 rfl rfl ?_
    refine gf_X12_109 (pc := 222) (j := 11) rfl dX12_mayOf_222 ?_
    refine r_lr (by decide) hF (fun b26 hF => ?_)
    refine r_bipush (pc := 225) (w := 8) dX12_mayOf_225 (by decide) ?_
    refine r_aload_n (pc := 227) 0 dX12_mayOf_227 rfl rfl ?_
    refine gf_X12_28 (pc := 228) (j := 12) rfl dX12_mayOf_228 ?_
    refine r_lr (by decide) hF (fun b27 hF => ?_)
    refine r_iload_n (pc := 231) 1 dX12_mayOf_231 rfl rfl ?_
    refine r_iald (pc := 232) (j := 0) rfl dX12_mayOf_232 hF (fun hF => ?_)
    refine r_i2l (pc := 233) dX12_mayOf_233 ?_
    refine r_last (pc := 234) (j := 1) rfl dX12_mayOf_234 hF (fun M28 hF => ?_)
    refine r_iconst (pc := 235) (w := 0) dX12_mayOf_235 (by decide) ?_
    refine r_istore (pc := 236) (L1 := [(5, .int ((0 : Int32))), (0, .ref x0), (1, .int x1), (3, .int x3), (4, .int x4)]) dX12_mayOf_236 (by decide) rfl ?_
    exact T.sub ((w_X12_mayOf_p238 (w_X12_mayOf_p274) FU) M28 x0 x4 (0 : Int32) hF) [13] [1, 4, 0] rfl rfl
  · refine r_lconst (pc := 99) (w := 0) dX12_mayOf_99 (by decide) ?_
    exact r_lret (pc := 100) dX12_mayOf_100 hF
set_option maxHeartbeats 4000000 in
theorem w_X12_mayOf {X : Option Cx} {G : EG} {res : Mem × Int64} (M : Mem) (a0 : Nat) (a1 : Int32) (a2 : Int32) (hF : F_X12_mayOf M a0 a1 a2 = some res) : T X (RJ G res) P_X12_mayOf M [(a0, 14)] [(0, .ref a0), (1, .int a1), (2, .int a2)] [] 0 := by
  unfold F_X12_mayOf at hF
  refine r_aload_n (pc := 0) 0 dX12_mayOf_0 rfl rfl ?_
  refine gf_X12_167 (pc := 1) (j := 0) rfl dX12_mayOf_1 ?_
  refine r_bipush (pc := 4) (w := 24) dX12_mayOf_4 (by decide) ?_
  refine r_idivc (pc := 6) dX12_mayOf_6 (by decide) ?_
  refine r_gI (pc := 7) hF (fun v1 hF => ?_)
  refine r_istore_n (pc := 7) (L1 := [(3, .int v1), (0, .ref a0), (1, .int a1), (2, .int a2)]) dX12_mayOf_7 rfl (by decide) rfl ?_
  refine r_iconst (pc := 8) (w := -1) dX12_mayOf_8 (by decide) ?_
  refine r_istore (pc := 9) (L1 := [(4, .int ((-1 : Int32))), (3, .int v1), (0, .ref a0), (1, .int a1), (2, .int a2)]) dX12_mayOf_9 (by decide) rfl ?_
  refine r_iconst (pc := 11) (w := 0) dX12_mayOf_11 (by decide) ?_
  refine r_istore (pc := 12) (L1 := [(5, .int ((0 : Int32))), (4, .int ((-1 : Int32))), (3, .int v1), (0, .ref a0), (1, .int a1), (2, .int a2)]) dX12_mayOf_12 (by decide) rfl ?_
  exact T.sub ((w_X12_mayOf_p14 (w_X12_mayOf_p94) FU) M a0 a1 a2 v1 (-1 : Int32) (0 : Int32) hF) [0] [3, 4, 5, 2, 1, 0] rfl rfl
theorem k_X12_mayOf (G : EG) (M : Mem) (a0 : Nat) (a1 : Int32) (a2 : Int32) (q : Mem × Int64) (h : F_X12_mayOf M a0 a1 a2 = some q) : Kt yX12_mayOf P_X12_mayOf M [(a0, 14)] [.ref a0, .int a1, .int a2] (RJ G q) := Kt.of (by decide +kernel) rfl (Nat.le_of_ble_eq_true rfl) rfl (fun X hz => w_X12_mayOf M a0 a1 a2 h)
set_option maxHeartbeats 4000000 in
theorem w_X12_begins_p52 {X : Option Cx} {G : EG} {res : Mem × Unit} {k107 : Mem → Nat → Int32 → Option (Mem × Unit)} (hk107 : ∀ (M : Mem) (x0 : Nat) (x1 : Int32), k107 M x0 x1 = some res → T X (RV G res) P_X12_begins M [(x0, 14)] [(0, .ref x0), (1, .int x1)] [] 107) : ∀ (n : Nat) (M : Mem) (x0 : Nat) (x1 : Int32) (x2 : Int32), F_X12_begins_p52 k107 n M x0 x1 x2 = some res → T X (RV G res) P_X12_begins M [(x0, 14)] [(0, .ref x0), (1, .int x1), (2, .int x2)] [] 52 := by
  intro n
  induction n with
  | zero =>
    intro M x0 x1 x2 hF
    cases hF
  | succ n ih =>
    intro M x0 x1 x2 hF
    unfold F_X12_begins_p52 at hF
    refine r_iload_n (pc := 52) 2 dX12_begins_52 rfl rfl ?_
    refine r_aload_n (pc := 53) 0 dX12_begins_53 rfl rfl ?_
    refine gf_X12_19 (pc := 54) (j := 0) rfl dX12_begins_54 ?_
    refine r_lr (by decide) hF (fun b1 hF => ?_)
    refine r_iload_n (pc := 57) 1 dX12_begins_57 rfl rfl ?_
    refine r_iald (pc := 58) (j := 0) rfl dX12_begins_58 hF (fun hF => ?_)
    refine r_icmp_ge (pc := 59) (tgt := 107) dX12_begins_59 rfl hF (fun hF => ?_) (fun hF => ?_)
    · exact T.sub (hk107 M x0 x1 hF) [1] [0, 1] rfl rfl
    · refine r_aload_n (pc := 62) 0 dX12_begins_62 rfl rfl ?_
      refine gf_X12_115 (pc := 63) (j := 1) rfl dX12_begins_63 ?_
      refine r_lr (by decide) hF (fun b2 hF => ?_)
      refine r_bipush (pc := 66) (w := 8) dX12_begins_66 (by decide) ?_
      refine r_iload_n (pc := 68) 1 dX12_begins_68 rfl rfl ?_
      refine r_imul (pc := 69) dX12_begins_69 ?_
      refine r_iload_n (pc := 70) 2 dX12_begins_70 rfl rfl ?_
      refine r_iadd (pc := 71) dX12_begins_71 ?_
      refine r_aload_n (pc := 72) 0 dX12_begins_72 rfl rfl ?_
      refine r_iload_n (pc := 73) 1 dX12_begins_73 rfl rfl ?_
      refine r_iload_n (pc := 74) 2 dX12_begins_74 rfl rfl ?_
      refine r_callV_J (pc := 75) (Py := P_X12_warmthOf) (n := 2) (As := [.int x1, .int x2]) (fun q e => k_X12_warmthOf G _ x0 x1 x2 q e) (c := 13) (Tb := TX12) (N := 58) rfl (by decide) (j0 := 2) rfl tw_1291 tw_1293 tw_34 tw_70 tw_1294 hd_X12_warmthOf ⟨Nat.le_of_ble_eq_true rfl, Nat.le_of_ble_eq_true rfl⟩ rfl [2] rfl rfl (Nat.le_of_ble_eq_true rfl) dX12_begins_75 hF (fun M3 r4 hF => ?_)
      refine r_last (pc := 78) (j := 0) rfl dX12_begins_78 hF (fun M5 hF => ?_)
      refine r_aload_n (pc := 79) 0 dX12_begins_79 rfl rfl ?_
      refine gf_X12_118 (pc := 80) (j := 2) rfl dX12_begins_80 ?_
      refine r_lr (by decide) hF (fun b6 hF => ?_)
      refine r_bipush (pc := 83) (w := 8) dX12_begins_83 (by decide) ?_
      refine r_iload_n (pc := 85) 1 dX12_begins_85 rfl rfl ?_
      refine r_imul (pc := 86) dX12_begins_86 ?_
      refine r_iload_n (pc := 87) 2 dX12_begins_87 rfl rfl ?_
      refine r_iadd (pc := 88) dX12_begins_88 ?_
      refine r_aload_n (pc := 89) 0 dX12_begins_89 rfl rfl ?_
      refine gf_X12_41 (pc := 90) (j := 3) rfl dX12_begins_90 ?_
      refine r_lr (by decide) hF (fun b7 hF => ?_)
      refine r_bipush (pc := 93) (w := 8) dX12_begins_93 (by decide) ?_
      refine r_iload_n (pc := 95) 1 dX12_begins_95 rfl rfl ?_
      refine r_imul (pc := 96) dX12_begins_96 ?_
      refine r_iload_n (pc := 97) 2 dX12_begins_97 rfl rfl ?_
      refine r_iadd (pc := 98) dX12_begins_98 ?_
      refine r_lald (pc := 99) (j := 0) rfl dX12_begins_99 hF (fun hF => ?_)
      refine r_last (pc := 100) (j := 1) rfl dX12_begins_100 hF (fun M8 hF => ?_)
      obtain ⟨v9, e9, hF⟩ := bnd_e hF
      refine r_iinc (pc := 101) (w := v9) (k := 2) (L1 := [(2, .int v9), (0, .ref x0), (1, .int x1)]) dX12_begins_101 rfl (by rw [e9]; rfl) (by decide) rfl ?_
      clear e9
      refine r_goto (pc := 104) (tgt := 52) dX12_begins_104 rfl ?_
      exact T.sub (ih M8 x0 x1 v9 hF) [4] [1, 2, 0] rfl rfl
set_option maxHeartbeats 4000000 in
theorem w_X12_begins_p107 {X : Option Cx} {G : EG} {res : Mem × Unit} {k2 : Mem → Nat → Int32 → Option (Mem × Unit)} (hk2 : ∀ (M : Mem) (x0 : Nat) (x1 : Int32), k2 M x0 x1 = some res → T X (RV G res) P_X12_begins M [(x0, 14)] [(0, .ref x0), (1, .int x1)] [] 2) : ∀ (M : Mem) (x0 : Nat) (x1 : Int32), F_X12_begins_p107 k2 M x0 x1 = some res → T X (RV G res) P_X12_begins M [(x0, 14)] [(0, .ref x0), (1, .int x1)] [] 107 := by
  intro M x0 x1 hF
  unfold F_X12_begins_p107 at hF
  obtain ⟨v1, e9, hF⟩ := bnd_e hF
  refine r_iinc (pc := 107) (w := v1) (k := 1) (L1 := [(1, .int v1), (0, .ref x0)]) dX12_begins_107 rfl (by rw [e9]; rfl) (by decide) rfl ?_
  clear e9
  refine r_goto (pc := 110) (tgt := 2) dX12_begins_110 rfl ?_
  exact T.sub (hk2 M x0 v1 hF) [0] [1, 0] rfl rfl
set_option maxHeartbeats 4000000 in
theorem w_X12_begins_p2 {X : Option Cx} {G : EG} {res : Mem × Unit} {k113 : Mem → Option (Mem × Unit)} (hk113 : ∀ (M : Mem), k113 M = some res → T X (RV G res) P_X12_begins M [] [] [] 113) : ∀ (n : Nat) (M : Mem) (x0 : Nat) (x1 : Int32), F_X12_begins_p2 k113 n M x0 x1 = some res → T X (RV G res) P_X12_begins M [(x0, 14)] [(0, .ref x0), (1, .int x1)] [] 2 := by
  intro n
  induction n with
  | zero =>
    intro M x0 x1 hF
    cases hF
  | succ n ih =>
    intro M x0 x1 hF
    unfold F_X12_begins_p2 at hF
    refine r_iload_n (pc := 2) 1 dX12_begins_2 rfl rfl ?_
    refine r_aload_n (pc := 3) 0 dX12_begins_3 rfl rfl ?_
    refine gf_X12_154 (pc := 4) (j := 0) rfl dX12_begins_4 ?_
    refine r_icmp_ge (pc := 7) (tgt := 113) dX12_begins_7 rfl hF (fun hF => ?_) (fun hF => ?_)
    · exact T.sub (hk113 M hF) [] [] rfl rfl
    · refine r_aload_n (pc := 10) 0 dX12_begins_10 rfl rfl ?_
      refine gf_X12_121 (pc := 11) (j := 0) rfl dX12_begins_11 ?_
      refine r_lr (by decide) hF (fun b1 hF => ?_)
      refine r_iload_n (pc := 14) 1 dX12_begins_14 rfl rfl ?_
      refine r_aload_n (pc := 15) 0 dX12_begins_15 rfl rfl ?_
      refine r_iload_n (pc := 16) 1 dX12_begins_16 rfl rfl ?_
      refine r_iconst (pc := 17) (w := 1) dX12_begins_17 (by decide) ?_
      refine r_callV_J (pc := 18) (Py := P_X12_mayOf) (n := 2) (As := [.int x1, .int ((1 : Int32))]) (fun q e => k_X12_mayOf G _ x0 x1 (1 : Int32) q e) (c := 13) (Tb := TX12) (N := 58) rfl (by decide) (j0 := 1) rfl tw_1278 tw_1280 tw_31 tw_70 tw_1281 hd_X12_mayOf ⟨Nat.le_of_ble_eq_true rfl, Nat.le_of_ble_eq_true rfl⟩ rfl [1] rfl rfl (Nat.le_of_ble_eq_true rfl) dX12_begins_18 hF (fun M2 r3 hF => ?_)
      refine r_last (pc := 21) (j := 0) rfl dX12_begins_21 hF (fun M4 hF => ?_)
      refine r_aload_n (pc := 22) 0 dX12_begins_22 rfl rfl ?_
      refine gf_X12_124 (pc := 23) (j := 1) rfl dX12_begins_23 ?_
      refine r_lr (by decide) hF (fun b5 hF => ?_)
      refine r_iload_n (pc := 26) 1 dX12_begins_26 rfl rfl ?_
      refine r_aload_n (pc := 27) 0 dX12_begins_27 rfl rfl ?_
      refine r_iload_n (pc := 28) 1 dX12_begins_28 rfl rfl ?_
      refine r_iconst (pc := 29) (w := 0) dX12_begins_29 (by decide) ?_
      refine r_callV_J (pc := 30) (Py := P_X12_mayOf) (n := 2) (As := [.int x1, .int ((0 : Int32))]) (fun q e => k_X12_mayOf G _ x0 x1 (0 : Int32) q e) (c := 13) (Tb := TX12) (N := 58) rfl (by decide) (j0 := 2) rfl tw_1278 tw_1280 tw_31 tw_70 tw_1281 hd_X12_mayOf ⟨Nat.le_of_ble_eq_true rfl, Nat.le_of_ble_eq_true rfl⟩ rfl [2] rfl rfl (Nat.le_of_ble_eq_true rfl) dX12_begins_30 hF (fun M6 r7 hF => ?_)
      refine r_last (pc := 33) (j := 0) rfl dX12_begins_33 hF (fun M8 hF => ?_)
      refine r_aload_n (pc := 34) 0 dX12_begins_34 rfl rfl ?_
      refine gf_X12_127 (pc := 35) (j := 2) rfl dX12_begins_35 ?_
      refine r_lr (by decide) hF (fun b9 hF => ?_)
      refine r_iload_n (pc := 38) 1 dX12_begins_38 rfl rfl ?_
      refine r_aload_n (pc := 39) 0 dX12_begins_39 rfl rfl ?_
      refine r_aload_n (pc := 40) 0 dX12_begins_40 rfl rfl ?_
      refine r_iload_n (pc := 41) 1 dX12_begins_41 rfl rfl ?_
      refine r_iconst (pc := 42) (w := 0) dX12_begins_42 (by decide) ?_
      refine r_callV_J (pc := 43) (Py := P_X12_warmthOf) (n := 2) (As := [.int x1, .int ((0 : Int32))]) (fun q e => k_X12_warmthOf G _ x0 x1 (0 : Int32) q e) (c := 13) (Tb := TX12) (N := 58) rfl (by decide) (j0 := 3) rfl tw_1291 tw_1293 tw_34 tw_70 tw_1294 hd_X12_warmthOf ⟨Nat.le_of_ble_eq_true rfl, Nat.le_of_ble_eq_true rfl⟩ rfl [3] rfl rfl (Nat.le_of_ble_eq_true rfl) dX12_begins_43 hF (fun M10 r11 hF => ?_)
      refine r_callV_J (pc := 46) (Py := P_X12_liftAt) (n := 1) (As := [.long r11]) (fun q e => k_X12_liftAt G _ x0 r11 q e) (c := 13) (Tb := TX12) (N := 58) rfl (by decide) (j0 := 3) rfl tw_1313 tw_1315 tw_37 tw_70 tw_1316 hd_X12_liftAt ⟨Nat.le_of_ble_eq_true rfl, Nat.le_of_ble_eq_true rfl⟩ rfl [3] rfl rfl (Nat.le_of_ble_eq_true rfl) dX12_begins_46 hF (fun M12 r13 hF => ?_)
      refine r_last (pc := 49) (j := 0) rfl dX12_begins_49 hF (fun M14 hF => ?_)
      refine r_iconst (pc := 50) (w := 0) dX12_begins_50 (by decide) ?_
      refine r_istore_n (pc := 51) (L1 := [(2, .int ((0 : Int32))), (0, .ref x0), (1, .int x1)]) dX12_begins_51 rfl (by decide) rfl ?_
      exact T.sub ((w_X12_begins_p52 (w_X12_begins_p107 ih) FU) M14 x0 x1 (0 : Int32) hF) [3] [1, 2, 0] rfl rfl
set_option maxHeartbeats 4000000 in
theorem w_X12_begins_p113 {X : Option Cx} {G : EG} {res : Mem × Unit} : ∀ (M : Mem), F_X12_begins_p113 M = some res → T X (RV G res) P_X12_begins M [] [] [] 113 := by
  intro M hF
  unfold F_X12_begins_p113 at hF
  exact r_vret (pc := 113) dX12_begins_113 hF
set_option maxHeartbeats 4000000 in
theorem w_X12_begins {X : Option Cx} {G : EG} {res : Mem × Unit} (M : Mem) (a0 : Nat) (hF : F_X12_begins M a0 = some res) : T X (RV G res) P_X12_begins M [(a0, 14)] [(0, .ref a0)] [] 0 := by
  unfold F_X12_begins at hF
  refine r_iconst (pc := 0) (w := 0) dX12_begins_0 (by decide) ?_
  refine r_istore_n (pc := 1) (L1 := [(1, .int ((0 : Int32))), (0, .ref a0)]) dX12_begins_1 rfl (by decide) rfl ?_
  exact T.sub ((w_X12_begins_p2 (w_X12_begins_p113) FU) M a0 (0 : Int32) hF) [0] [1, 0] rfl rfl
theorem k_X12_begins (G : EG) (M : Mem) (a0 : Nat) (q : Mem × Unit) (h : F_X12_begins M a0 = some q) : Kt yX12_begins P_X12_begins M [(a0, 14)] [.ref a0] (RV G q) := Kt.of (by decide +kernel) rfl (Nat.le_of_ble_eq_true rfl) rfl (fun X hz => w_X12_begins M a0 h)
set_option maxHeartbeats 4000000 in
theorem w_X12_atFirst {X : Option Cx} {G : EG} {res : Mem × Int64} (M : Mem) (a0 : Nat) (a1 : Int32) (a2 : Int32) (hF : F_X12_atFirst M a0 a1 a2 = some res) : T X (RJ G res) P_X12_atFirst M [(a0, 14)] [(0, .ref a0), (1, .int a1), (2, .int a2)] [] 0 := by
  unfold F_X12_atFirst at hF
  refine r_ldc2 (pc := 0) (w := 1000) tw_1299 dX12_atFirst_0 ?_
  refine r_aload_n (pc := 3) 0 dX12_atFirst_3 rfl rfl ?_
  refine gf_X12_28 (pc := 4) (j := 0) rfl dX12_atFirst_4 ?_
  refine r_lr (by decide) hF (fun b1 hF => ?_)
  refine r_iload_n (pc := 7) 1 dX12_atFirst_7 rfl rfl ?_
  refine r_iald (pc := 8) (j := 0) rfl dX12_atFirst_8 hF (fun hF => ?_)
  refine r_i2l (pc := 9) dX12_atFirst_9 ?_
  refine r_lmul (pc := 10) dX12_atFirst_10 ?_
  refine r_aload_n (pc := 11) 0 dX12_atFirst_11 rfl rfl ?_
  refine r_iload_n (pc := 12) 1 dX12_atFirst_12 rfl rfl ?_
  refine r_iload_n (pc := 13) 2 dX12_atFirst_13 rfl rfl ?_
  refine r_callV_I (pc := 14) (Py := P_X12_holdOf) (n := 2) (As := [.int a1, .int a2]) (fun q e => k_X12_holdOf G _ a0 a1 a2 q e) (c := 13) (Tb := TX12) (N := 58) rfl (by decide) (j0 := 1) rfl tw_1295 tw_1297 tw_35 tw_70 tw_1298 hd_X12_holdOf ⟨Nat.le_of_ble_eq_true rfl, Nat.le_of_ble_eq_true rfl⟩ rfl [1] rfl rfl (Nat.le_of_ble_eq_true rfl) dX12_atFirst_14 hF (fun M2 r3 hF => ?_)
  refine r_i2l (pc := 17) dX12_atFirst_17 ?_
  refine r_lmul (pc := 18) dX12_atFirst_18 ?_
  exact r_lret (pc := 19) dX12_atFirst_19 hF
theorem k_X12_atFirst (G : EG) (M : Mem) (a0 : Nat) (a1 : Int32) (a2 : Int32) (q : Mem × Int64) (h : F_X12_atFirst M a0 a1 a2 = some q) : Kt yX12_atFirst P_X12_atFirst M [(a0, 14)] [.ref a0, .int a1, .int a2] (RJ G q) := Kt.of (by decide +kernel) rfl (Nat.le_of_ble_eq_true rfl) rfl (fun X hz => w_X12_atFirst M a0 a1 a2 h)
set_option maxHeartbeats 4000000 in
theorem w_X12_farOf_p103 {X : Option Cx} {G : EG} {res : Mem × Int32} : ∀ (M : Mem) (y0 : Int32), F_X12_farOf_p103 M y0 = some res → T X (RI G res) P_X12_farOf M [] [] [.int y0] 103 := by
  intro M y0 hF
  unfold F_X12_farOf_p103 at hF
  exact r_iret (pc := 103) dX12_farOf_103 hF
set_option maxHeartbeats 4000000 in
theorem w_X12_farOf_p89 {X : Option Cx} {G : EG} {res : Mem × Int32} : ∀ (M : Mem) (x3 : Int32) (y0 : Int32), F_X12_farOf_p89 M x3 y0 = some res → T X (RI G res) P_X12_farOf M [] [(3, .int x3)] [.int y0] 89 := by
  intro M x3 y0 hF
  unfold F_X12_farOf_p89 at hF
  refine r_istore (pc := 89) (L1 := [(4, .int y0), (3, .int x3)]) dX12_farOf_89 (by decide) rfl ?_
  refine r_iload_n (pc := 91) 1 dX12_farOf_91 rfl rfl ?_
  refine r_iload (pc := 92) 0 dX12_farOf_92 rfl ?_
  refine r_icmp_le (pc := 94) (tgt := 101) dX12_farOf_94 rfl hF (fun hF => ?_) (fun hF => ?_)
  · refine r_iload (pc := 101) 0 dX12_farOf_101 rfl ?_
    exact T.sub ((w_X12_farOf_p103) M y0 hF) [] [] rfl rfl
  · refine r_iload_n (pc := 97) 1 dX12_farOf_97 rfl rfl ?_
    refine r_goto (pc := 98) (tgt := 103) dX12_farOf_98 rfl ?_
    exact T.sub ((w_X12_farOf_p103) M x3 hF) [] [] rfl rfl
set_option maxHeartbeats 4000000 in
theorem w_X12_farOf_p44 {X : Option Cx} {G : EG} {res : Mem × Int32} : ∀ (M : Mem) (x0 : Nat) (x1 : Int32) (x2 : Int32) (y0 : Int32), F_X12_farOf_p44 M x0 x1 x2 y0 = some res → T X (RI G res) P_X12_farOf M [(x0, 14)] [(0, .ref x0), (1, .int x1), (2, .int x2)] [.int y0] 44 := by
  intro M x0 x1 x2 y0 hF
  unfold F_X12_farOf_p44 at hF
  refine r_istore_n (pc := 44) (L1 := [(3, .int y0), (0, .ref x0), (1, .int x1), (2, .int x2)]) dX12_farOf_44 rfl (by decide) rfl ?_
  refine r_aload_n (pc := 45) 1 dX12_farOf_45 rfl rfl ?_
  refine gf_X12_16 (pc := 46) (j := 0) rfl dX12_farOf_46 ?_
  refine r_lr (by decide) hF (fun b1 hF => ?_)
  refine r_iload_n (pc := 49) 2 dX12_farOf_49 rfl rfl ?_
  refine r_iald (pc := 50) (j := 0) rfl dX12_farOf_50 hF (fun hF => ?_)
  refine r_aload_n (pc := 51) 1 dX12_farOf_51 rfl rfl ?_
  refine gf_X12_16 (pc := 52) (j := 1) rfl dX12_farOf_52 ?_
  refine r_lr (by decide) hF (fun b2 hF => ?_)
  refine r_iload_n (pc := 55) 3 dX12_farOf_55 rfl rfl ?_
  refine r_iald (pc := 56) (j := 0) rfl dX12_farOf_56 hF (fun hF => ?_)
  refine r_icmp_ge (pc := 57) (tgt := 76) dX12_farOf_57 rfl hF (fun hF => ?_) (fun hF => ?_)
  · refine r_aload_n (pc := 76) 1 dX12_farOf_76 rfl rfl ?_
    refine gf_X12_16 (pc := 77) (j := 2) rfl dX12_farOf_77 ?_
    refine r_lr (by decide) hF (fun b3 hF => ?_)
    refine r_iload_n (pc := 80) 2 dX12_farOf_80 rfl rfl ?_
    refine r_iald (pc := 81) (j := 0) rfl dX12_farOf_81 hF (fun hF => ?_)
    refine r_aload_n (pc := 82) 1 dX12_farOf_82 rfl rfl ?_
    refine gf_X12_16 (pc := 83) (j := 3) rfl dX12_farOf_83 ?_
    refine r_lr (by decide) hF (fun b4 hF => ?_)
    refine r_iload_n (pc := 86) 3 dX12_farOf_86 rfl rfl ?_
    refine r_iald (pc := 87) (j := 0) rfl dX12_farOf_87 hF (fun hF => ?_)
    refine r_isub (pc := 88) dX12_farOf_88 ?_
    exact T.sub ((w_X12_farOf_p89) M y0 ((gA M b3 (ixn x1)) - (gA M b4 (ixn x2))) hF) [] [0] rfl rfl
  · refine r_aload_n (pc := 60) 1 dX12_farOf_60 rfl rfl ?_
    refine gf_X12_16 (pc := 61) (j := 2) rfl dX12_farOf_61 ?_
    refine r_lr (by decide) hF (fun b5 hF => ?_)
    refine r_iload_n (pc := 64) 3 dX12_farOf_64 rfl rfl ?_
    refine r_iald (pc := 65) (j := 0) rfl dX12_farOf_65 hF (fun hF => ?_)
    refine r_aload_n (pc := 66) 1 dX12_farOf_66 rfl rfl ?_
    refine gf_X12_16 (pc := 67) (j := 3) rfl dX12_farOf_67 ?_
    refine r_lr (by decide) hF (fun b6 hF => ?_)
    refine r_iload_n (pc := 70) 2 dX12_farOf_70 rfl rfl ?_
    refine r_iald (pc := 71) (j := 0) rfl dX12_farOf_71 hF (fun hF => ?_)
    refine r_isub (pc := 72) dX12_farOf_72 ?_
    refine r_goto (pc := 73) (tgt := 89) dX12_farOf_73 rfl ?_
    exact T.sub ((w_X12_farOf_p89) M y0 ((gA M b5 (ixn x2)) - (gA M b6 (ixn x1))) hF) [] [0] rfl rfl
set_option maxHeartbeats 4000000 in
theorem w_X12_farOf {X : Option Cx} {G : EG} {res : Mem × Int32} (M : Mem) (a0 : Nat) (a1 : Int32) (a2 : Int32) (hF : F_X12_farOf M a0 a1 a2 = some res) : T X (RI G res) P_X12_farOf M [(a0, 14)] [(0, .ref a0), (1, .int a1), (2, .int a2)] [] 0 := by
  unfold F_X12_farOf at hF
  refine r_aload_n (pc := 0) 0 dX12_farOf_0 rfl rfl ?_
  refine gf_X12_13 (pc := 1) (j := 0) rfl dX12_farOf_1 ?_
  refine r_lr (by decide) hF (fun b1 hF => ?_)
  refine r_iload_n (pc := 4) 1 dX12_farOf_4 rfl rfl ?_
  refine r_iald (pc := 5) (j := 0) rfl dX12_farOf_5 hF (fun hF => ?_)
  refine r_aload_n (pc := 6) 0 dX12_farOf_6 rfl rfl ?_
  refine gf_X12_13 (pc := 7) (j := 1) rfl dX12_farOf_7 ?_
  refine r_lr (by decide) hF (fun b2 hF => ?_)
  refine r_iload_n (pc := 10) 2 dX12_farOf_10 rfl rfl ?_
  refine r_iald (pc := 11) (j := 0) rfl dX12_farOf_11 hF (fun hF => ?_)
  refine r_icmp_ge (pc := 12) (tgt := 31) dX12_farOf_12 rfl hF (fun hF => ?_) (fun hF => ?_)
  · refine r_aload_n (pc := 31) 0 dX12_farOf_31 rfl rfl ?_
    refine gf_X12_13 (pc := 32) (j := 2) rfl dX12_farOf_32 ?_
    refine r_lr (by decide) hF (fun b3 hF => ?_)
    refine r_iload_n (pc := 35) 1 dX12_farOf_35 rfl rfl ?_
    refine r_iald (pc := 36) (j := 0) rfl dX12_farOf_36 hF (fun hF => ?_)
    refine r_aload_n (pc := 37) 0 dX12_farOf_37 rfl rfl ?_
    refine gf_X12_13 (pc := 38) (j := 3) rfl dX12_farOf_38 ?_
    refine r_lr (by decide) hF (fun b4 hF => ?_)
    refine r_iload_n (pc := 41) 2 dX12_farOf_41 rfl rfl ?_
    refine r_iald (pc := 42) (j := 0) rfl dX12_farOf_42 hF (fun hF => ?_)
    refine r_isub (pc := 43) dX12_farOf_43 ?_
    exact T.sub ((w_X12_farOf_p44) M a0 a1 a2 ((gA M b3 (ixn a1)) - (gA M b4 (ixn a2))) hF) [4] [0, 1, 2] rfl rfl
  · refine r_aload_n (pc := 15) 0 dX12_farOf_15 rfl rfl ?_
    refine gf_X12_13 (pc := 16) (j := 2) rfl dX12_farOf_16 ?_
    refine r_lr (by decide) hF (fun b5 hF => ?_)
    refine r_iload_n (pc := 19) 2 dX12_farOf_19 rfl rfl ?_
    refine r_iald (pc := 20) (j := 0) rfl dX12_farOf_20 hF (fun hF => ?_)
    refine r_aload_n (pc := 21) 0 dX12_farOf_21 rfl rfl ?_
    refine gf_X12_13 (pc := 22) (j := 3) rfl dX12_farOf_22 ?_
    refine r_lr (by decide) hF (fun b6 hF => ?_)
    refine r_iload_n (pc := 25) 1 dX12_farOf_25 rfl rfl ?_
    refine r_iald (pc := 26) (j := 0) rfl dX12_farOf_26 hF (fun hF => ?_)
    refine r_isub (pc := 27) dX12_farOf_27 ?_
    refine r_goto (pc := 28) (tgt := 44) dX12_farOf_28 rfl ?_
    exact T.sub ((w_X12_farOf_p44) M a0 a1 a2 ((gA M b5 (ixn a2)) - (gA M b6 (ixn a1))) hF) [4] [0, 1, 2] rfl rfl
theorem k_X12_farOf (G : EG) (M : Mem) (a0 : Nat) (a1 : Int32) (a2 : Int32) (q : Mem × Int32) (h : F_X12_farOf M a0 a1 a2 = some q) : Kt yX12_farOf P_X12_farOf M [(a0, 14)] [.ref a0, .int a1, .int a2] (RI G q) := Kt.of (by decide +kernel) rfl (Nat.le_of_ble_eq_true rfl) rfl (fun X hz => w_X12_farOf M a0 a1 a2 h)
set_option maxHeartbeats 4000000 in
theorem w_X12_ground_p21 {X : Option Cx} {G : EG} {res : Mem × Unit} {k105 : Mem → Nat → Int32 → Int32 → Option (Mem × Unit)} (hk105 : ∀ (M : Mem) (x0 : Nat) (x1 : Int32) (x2 : Int32), k105 M x0 x1 x2 = some res → T X (RV G res) P_X12_ground M [(x0, 14)] [(0, .ref x0), (1, .int x1), (2, .int x2)] [] 105) : ∀ (n : Nat) (M : Mem) (x0 : Nat) (x1 : Int32) (x2 : Int32) (x3 : Int32), F_X12_ground_p21 k105 n M x0 x1 x2 x3 = some res → T X (RV G res) P_X12_ground M [(x0, 14)] [(0, .ref x0), (1, .int x1), (2, .int x2), (3, .int x3)] [] 21 := by
  intro n
  induction n with
  | zero =>
    intro M x0 x1 x2 x3 hF
    cases hF
  | succ n ih =>
    intro M x0 x1 x2 x3 hF
    unfold F_X12_ground_p21 at hF
    refine r_iload_n (pc := 21) 3 dX12_ground_21 rfl rfl ?_
    refine r_iload_n (pc := 22) 2 dX12_ground_22 rfl rfl ?_
    refine r_icmp_ge (pc := 23) (tgt := 105) dX12_ground_23 rfl hF (fun hF => ?_) (fun hF => ?_)
    · exact T.sub (hk105 M x0 x1 x2 hF) [0] [0, 1, 2] rfl rfl
    · refine r_aload_n (pc := 26) 0 dX12_ground_26 rfl rfl ?_
      refine gf_X12_31 (pc := 27) (j := 0) rfl dX12_ground_27 ?_
      refine r_lr (by decide) hF (fun b1 hF => ?_)
      refine r_iload_n (pc := 30) 1 dX12_ground_30 rfl rfl ?_
      refine r_iald (pc := 31) (j := 0) rfl dX12_ground_31 hF (fun hF => ?_)
      refine r_i2l (pc := 32) dX12_ground_32 ?_
      refine r_aload_n (pc := 33) 0 dX12_ground_33 rfl rfl ?_
      refine gf_X12_115 (pc := 34) (j := 1) rfl dX12_ground_34 ?_
      refine r_lr (by decide) hF (fun b2 hF => ?_)
      refine r_bipush (pc := 37) (w := 8) dX12_ground_37 (by decide) ?_
      refine r_iload_n (pc := 39) 1 dX12_ground_39 rfl rfl ?_
      refine r_imul (pc := 40) dX12_ground_40 ?_
      refine r_iload_n (pc := 41) 3 dX12_ground_41 rfl rfl ?_
      refine r_iadd (pc := 42) dX12_ground_42 ?_
      refine r_lald (pc := 43) (j := 0) rfl dX12_ground_43 hF (fun hF => ?_)
      refine r_aload_n (pc := 44) 0 dX12_ground_44 rfl rfl ?_
      refine gf_X12_115 (pc := 45) (j := 2) rfl dX12_ground_45 ?_
      refine r_lr (by decide) hF (fun b3 hF => ?_)
      refine r_bipush (pc := 48) (w := 8) dX12_ground_48 (by decide) ?_
      refine r_iload_n (pc := 50) 1 dX12_ground_50 rfl rfl ?_
      refine r_imul (pc := 51) dX12_ground_51 ?_
      refine r_iload_n (pc := 52) 3 dX12_ground_52 rfl rfl ?_
      refine r_iadd (pc := 53) dX12_ground_53 ?_
      refine r_iconst (pc := 54) (w := 1) dX12_ground_54 (by decide) ?_
      refine r_iadd (pc := 55) dX12_ground_55 ?_
      refine r_lald (pc := 56) (j := 0) rfl dX12_ground_56 hF (fun hF => ?_)
      refine r_lsub (pc := 57) dX12_ground_57 ?_
      refine r_lmul (pc := 58) dX12_ground_58 ?_
      refine r_ldc2 (pc := 59) (w := 100) tw_1317 dX12_ground_59 ?_
      refine r_ldivc (pc := 62) dX12_ground_62 (by decide) ?_
      refine r_gJ (pc := 63) hF (fun v4 hF => ?_)
      refine r_lstore (pc := 63) (L1 := [(4, .long v4), (0, .ref x0), (1, .int x1), (2, .int x2), (3, .int x3)]) dX12_ground_63 (by decide) rfl ?_
      refine r_aload_n (pc := 65) 1 dX12_ground_65 rfl rfl ?_
      refine gf_X12_41 (pc := 66) (j := 3) rfl dX12_ground_66 ?_
      refine r_lr (by decide) hF (fun b5 hF => ?_)
      refine r_bipush (pc := 69) (w := 8) dX12_ground_69 (by decide) ?_
      refine r_iload_n (pc := 71) 2 dX12_ground_71 rfl rfl ?_
      refine r_imul (pc := 72) dX12_ground_72 ?_
      refine r_iload_n (pc := 73) 4 dX12_ground_73 rfl rfl ?_
      refine r_iadd (pc := 74) dX12_ground_74 ?_
      refine r_dup2 (pc := 75) dX12_ground_75 rfl rfl ?_
      refine r_lald (pc := 76) (j := 0) rfl dX12_ground_76 hF (fun hF => ?_)
      refine r_lload (pc := 77) 0 dX12_ground_77 rfl ?_
      refine r_lsub (pc := 79) dX12_ground_79 ?_
      refine r_last (pc := 80) (j := 0) rfl dX12_ground_80 hF (fun M6 hF => ?_)
      refine r_aload_n (pc := 81) 1 dX12_ground_81 rfl rfl ?_
      refine gf_X12_41 (pc := 82) (j := 4) rfl dX12_ground_82 ?_
      refine r_lr (by decide) hF (fun b7 hF => ?_)
      refine r_bipush (pc := 85) (w := 8) dX12_ground_85 (by decide) ?_
      refine r_iload_n (pc := 87) 2 dX12_ground_87 rfl rfl ?_
      refine r_imul (pc := 88) dX12_ground_88 ?_
      refine r_iload_n (pc := 89) 4 dX12_ground_89 rfl rfl ?_
      refine r_iadd (pc := 90) dX12_ground_90 ?_
      refine r_iconst (pc := 91) (w := 1) dX12_ground_91 (by decide) ?_
      refine r_iadd (pc := 92) dX12_ground_92 ?_
      refine r_dup2 (pc := 93) dX12_ground_93 rfl rfl ?_
      refine r_lald (pc := 94) (j := 0) rfl dX12_ground_94 hF (fun hF => ?_)
      refine r_lload (pc := 95) 0 dX12_ground_95 rfl ?_
      refine r_ladd (pc := 97) dX12_ground_97 ?_
      refine r_last (pc := 98) (j := 0) rfl dX12_ground_98 hF (fun M8 hF => ?_)
      obtain ⟨v9, e9, hF⟩ := bnd_e hF
      refine r_iinc (pc := 99) (w := v9) (k := 4) (L1 := [(3, .int v9), (4, .long v4), (0, .ref x0), (1, .int x1), (2, .int x2)]) dX12_ground_99 rfl (by rw [e9]; rfl) (by decide) rfl ?_
      clear e9
      refine r_goto (pc := 102) (tgt := 21) dX12_ground_102 rfl ?_
      exact T.sub (ih M8 x0 x1 x2 v9 hF) [5] [2, 3, 4, 0] rfl rfl
set_option maxHeartbeats 4000000 in
theorem w_X12_ground_p170 {X : Option Cx} {G : EG} {res : Mem × Unit} {k245 : Mem → Nat → Int32 → Option (Mem × Unit)} (hk245 : ∀ (M : Mem) (x0 : Nat) (x1 : Int32), k245 M x0 x1 = some res → T X (RV G res) P_X12_ground M [(x0, 14)] [(0, .ref x0), (1, .int x1)] [] 245) : ∀ (n : Nat) (M : Mem) (x0 : Nat) (x1 : Int32) (x2 : Int32) (x5 : Int32), F_X12_ground_p170 k245 n M x0 x1 x2 x5 = some res → T X (RV G res) P_X12_ground M [(x0, 14)] [(0, .ref x0), (1, .int x1), (2, .int x2), (5, .int x5)] [] 170 := by
  intro n
  induction n with
  | zero =>
    intro M x0 x1 x2 x5 hF
    cases hF
  | succ n ih =>
    intro M x0 x1 x2 x5 hF
    unfold F_X12_ground_p170 at hF
    refine r_iload (pc := 170) 3 dX12_ground_170 rfl ?_
    refine r_iload_n (pc := 172) 2 dX12_ground_172 rfl rfl ?_
    refine r_icmp_gt (pc := 173) (tgt := 245) dX12_ground_173 rfl hF (fun hF => ?_) (fun hF => ?_)
    · exact T.sub (hk245 M x0 x1 hF) [0] [0, 1] rfl rfl
    · refine r_aload_n (pc := 176) 0 dX12_ground_176 rfl rfl ?_
      refine gf_X12_118 (pc := 177) (j := 0) rfl dX12_ground_177 ?_
      refine r_lr (by decide) hF (fun b1 hF => ?_)
      refine r_bipush (pc := 180) (w := 8) dX12_ground_180 (by decide) ?_
      refine r_iload_n (pc := 182) 1 dX12_ground_182 rfl rfl ?_
      refine r_imul (pc := 183) dX12_ground_183 ?_
      refine r_iload (pc := 184) 3 dX12_ground_184 rfl ?_
      refine r_iadd (pc := 186) dX12_ground_186 ?_
      refine r_lald (pc := 187) (j := 0) rfl dX12_ground_187 hF (fun hF => ?_)
      refine r_aload_n (pc := 188) 0 dX12_ground_188 rfl rfl ?_
      refine r_iload_n (pc := 189) 1 dX12_ground_189 rfl rfl ?_
      refine r_iload (pc := 190) 3 dX12_ground_190 rfl ?_
      refine r_callV_J (pc := 192) (Py := P_X12_atFirst) (n := 2) (As := [.int x1, .int x5]) (fun q e => k_X12_atFirst G _ x0 x1 x5 q e) (c := 13) (Tb := TX12) (N := 58) rfl (by decide) (j0 := 1) rfl tw_1322 tw_1324 tw_39 tw_70 tw_1325 hd_X12_atFirst ⟨Nat.le_of_ble_eq_true rfl, Nat.le_of_ble_eq_true rfl⟩ rfl [1] rfl rfl (Nat.le_of_ble_eq_true rfl) dX12_ground_192 hF (fun M2 r3 hF => ?_)
      refine r_lsub (pc := 195) dX12_ground_195 ?_
      refine r_aload_n (pc := 196) 0 dX12_ground_196 rfl rfl ?_
      refine gf_X12_34 (pc := 197) (j := 1) rfl dX12_ground_197 ?_
      refine r_lr (by decide) hF (fun b4 hF => ?_)
      refine r_iload_n (pc := 200) 1 dX12_ground_200 rfl rfl ?_
      refine r_iald (pc := 201) (j := 0) rfl dX12_ground_201 hF (fun hF => ?_)
      refine r_i2l (pc := 202) dX12_ground_202 ?_
      refine r_lmul (pc := 203) dX12_ground_203 ?_
      refine r_ldc2 (pc := 204) (w := 1000) tw_1299 dX12_ground_204 ?_
      refine r_ldivc (pc := 207) dX12_ground_207 (by decide) ?_
      refine r_gJ (pc := 208) hF (fun v5 hF => ?_)
      refine r_lstore (pc := 208) (L1 := [(6, .long v5), (0, .ref x0), (1, .int x1), (2, .int x2), (5, .int x5)]) dX12_ground_208 (by decide) rfl ?_
      refine r_aload_n (pc := 210) 1 dX12_ground_210 rfl rfl ?_
      refine gf_X12_41 (pc := 211) (j := 2) rfl dX12_ground_211 ?_
      refine r_lr (by decide) hF (fun b6 hF => ?_)
      refine r_bipush (pc := 214) (w := 8) dX12_ground_214 (by decide) ?_
      refine r_iload_n (pc := 216) 2 dX12_ground_216 rfl rfl ?_
      refine r_imul (pc := 217) dX12_ground_217 ?_
      refine r_iload (pc := 218) 4 dX12_ground_218 rfl ?_
      refine r_iadd (pc := 220) dX12_ground_220 ?_
      refine r_dup2 (pc := 221) dX12_ground_221 rfl rfl ?_
      refine r_lald (pc := 222) (j := 0) rfl dX12_ground_222 hF (fun hF => ?_)
      refine r_lload (pc := 223) 0 dX12_ground_223 rfl ?_
      refine r_lsub (pc := 225) dX12_ground_225 ?_
      refine r_last (pc := 226) (j := 0) rfl dX12_ground_226 hF (fun M7 hF => ?_)
      refine r_aload_n (pc := 227) 1 dX12_ground_227 rfl rfl ?_
      refine gf_X12_48 (pc := 228) (j := 3) rfl dX12_ground_228 ?_
      refine r_lr (by decide) hF (fun b8 hF => ?_)
      refine r_bipush (pc := 231) (w := 8) dX12_ground_231 (by decide) ?_
      refine r_dup2 (pc := 233) dX12_ground_233 rfl rfl ?_
      refine r_lald (pc := 234) (j := 0) rfl dX12_ground_234 hF (fun hF => ?_)
      refine r_lload (pc := 235) 0 dX12_ground_235 rfl ?_
      refine r_ladd (pc := 237) dX12_ground_237 ?_
      refine r_last (pc := 238) (j := 0) rfl dX12_ground_238 hF (fun M9 hF => ?_)
      obtain ⟨v10, e9, hF⟩ := bnd_e hF
      refine r_iinc (pc := 239) (w := v10) (k := 4) (L1 := [(5, .int v10), (6, .long v5), (0, .ref x0), (1, .int x1), (2, .int x2)]) dX12_ground_239 rfl (by rw [e9]; rfl) (by decide) rfl ?_
      clear e9
      refine r_goto (pc := 242) (tgt := 170) dX12_ground_242 rfl ?_
      exact T.sub (ih M9 x0 x1 x2 v10 hF) [4] [2, 3, 4, 0] rfl rfl
set_option maxHeartbeats 4000000 in
theorem w_X12_ground_p245 {X : Option Cx} {G : EG} {res : Mem × Unit} {k2 : Mem → Nat → Int32 → Option (Mem × Unit)} (hk2 : ∀ (M : Mem) (x0 : Nat) (x1 : Int32), k2 M x0 x1 = some res → T X (RV G res) P_X12_ground M [(x0, 14)] [(0, .ref x0), (1, .int x1)] [] 2) : ∀ (M : Mem) (x0 : Nat) (x1 : Int32), F_X12_ground_p245 k2 M x0 x1 = some res → T X (RV G res) P_X12_ground M [(x0, 14)] [(0, .ref x0), (1, .int x1)] [] 245 := by
  intro M x0 x1 hF
  unfold F_X12_ground_p245 at hF
  obtain ⟨v1, e9, hF⟩ := bnd_e hF
  refine r_iinc (pc := 245) (w := v1) (k := 1) (L1 := [(1, .int v1), (0, .ref x0)]) dX12_ground_245 rfl (by rw [e9]; rfl) (by decide) rfl ?_
  clear e9
  refine r_goto (pc := 248) (tgt := 2) dX12_ground_248 rfl ?_
  exact T.sub (hk2 M x0 v1 hF) [0] [1, 0] rfl rfl
set_option maxHeartbeats 4000000 in
theorem w_X12_ground_p105 {X : Option Cx} {G : EG} {res : Mem × Unit} {k2 : Mem → Nat → Int32 → Option (Mem × Unit)} (hk2 : ∀ (M : Mem) (x0 : Nat) (x1 : Int32), k2 M x0 x1 = some res → T X (RV G res) P_X12_ground M [(x0, 14)] [(0, .ref x0), (1, .int x1)] [] 2) : ∀ (M : Mem) (x0 : Nat) (x1 : Int32) (x2 : Int32), F_X12_ground_p105 k2 M x0 x1 x2 = some res → T X (RV G res) P_X12_ground M [(x0, 14)] [(0, .ref x0), (1, .int x1), (2, .int x2)] [] 105 := by
  intro M x0 x1 x2 hF
  unfold F_X12_ground_p105 at hF
  refine r_aload_n (pc := 105) 0 dX12_ground_105 rfl rfl ?_
  refine gf_X12_31 (pc := 106) (j := 0) rfl dX12_ground_106 ?_
  refine r_lr (by decide) hF (fun b1 hF => ?_)
  refine r_iload_n (pc := 109) 1 dX12_ground_109 rfl rfl ?_
  refine r_iald (pc := 110) (j := 0) rfl dX12_ground_110 hF (fun hF => ?_)
  refine r_i2l (pc := 111) dX12_ground_111 ?_
  refine r_aload_n (pc := 112) 0 dX12_ground_112 rfl rfl ?_
  refine gf_X12_115 (pc := 113) (j := 1) rfl dX12_ground_113 ?_
  refine r_lr (by decide) hF (fun b2 hF => ?_)
  refine r_bipush (pc := 116) (w := 8) dX12_ground_116 (by decide) ?_
  refine r_iload_n (pc := 118) 1 dX12_ground_118 rfl rfl ?_
  refine r_imul (pc := 119) dX12_ground_119 ?_
  refine r_iload_n (pc := 120) 2 dX12_ground_120 rfl rfl ?_
  refine r_iadd (pc := 121) dX12_ground_121 ?_
  refine r_lald (pc := 122) (j := 0) rfl dX12_ground_122 hF (fun hF => ?_)
  refine r_ldc2 (pc := 123) (w := 1000) tw_1299 dX12_ground_123 ?_
  refine r_aload_n (pc := 126) 0 dX12_ground_126 rfl rfl ?_
  refine gf_X12_28 (pc := 127) (j := 2) rfl dX12_ground_127 ?_
  refine r_lr (by decide) hF (fun b3 hF => ?_)
  refine r_iload_n (pc := 130) 1 dX12_ground_130 rfl rfl ?_
  refine r_iald (pc := 131) (j := 0) rfl dX12_ground_131 hF (fun hF => ?_)
  refine r_i2l (pc := 132) dX12_ground_132 ?_
  refine r_lmul (pc := 133) dX12_ground_133 ?_
  refine r_lsub (pc := 134) dX12_ground_134 ?_
  refine r_lmul (pc := 135) dX12_ground_135 ?_
  refine r_ldc2 (pc := 136) (w := 100) tw_1317 dX12_ground_136 ?_
  refine r_ldivc (pc := 139) dX12_ground_139 (by decide) ?_
  refine r_gJ (pc := 140) hF (fun v4 hF => ?_)
  refine r_lstore_n (pc := 140) (L1 := [(3, .long v4), (0, .ref x0), (1, .int x1), (2, .int x2)]) dX12_ground_140 rfl (by decide) rfl ?_
  refine r_aload_n (pc := 141) 1 dX12_ground_141 rfl rfl ?_
  refine gf_X12_41 (pc := 142) (j := 3) rfl dX12_ground_142 ?_
  refine r_lr (by decide) hF (fun b5 hF => ?_)
  refine r_bipush (pc := 145) (w := 8) dX12_ground_145 (by decide) ?_
  refine r_iload_n (pc := 147) 2 dX12_ground_147 rfl rfl ?_
  refine r_imul (pc := 148) dX12_ground_148 ?_
  refine r_iload_n (pc := 149) 3 dX12_ground_149 rfl rfl ?_
  refine r_iadd (pc := 150) dX12_ground_150 ?_
  refine r_dup2 (pc := 151) dX12_ground_151 rfl rfl ?_
  refine r_lald (pc := 152) (j := 0) rfl dX12_ground_152 hF (fun hF => ?_)
  refine r_lload_n (pc := 153) 0 dX12_ground_153 rfl rfl ?_
  refine r_lsub (pc := 154) dX12_ground_154 ?_
  refine r_last (pc := 155) (j := 0) rfl dX12_ground_155 hF (fun M6 hF => ?_)
  refine r_aload_n (pc := 156) 1 dX12_ground_156 rfl rfl ?_
  refine gf_X12_48 (pc := 157) (j := 4) rfl dX12_ground_157 ?_
  refine r_lr (by decide) hF (fun b7 hF => ?_)
  refine r_bipush (pc := 160) (w := 7) dX12_ground_160 (by decide) ?_
  refine r_dup2 (pc := 162) dX12_ground_162 rfl rfl ?_
  refine r_lald (pc := 163) (j := 0) rfl dX12_ground_163 hF (fun hF => ?_)
  refine r_lload_n (pc := 164) 0 dX12_ground_164 rfl rfl ?_
  refine r_ladd (pc := 165) dX12_ground_165 ?_
  refine r_last (pc := 166) (j := 0) rfl dX12_ground_166 hF (fun M8 hF => ?_)
  refine r_iconst (pc := 167) (w := 0) dX12_ground_167 (by decide) ?_
  refine r_istore (pc := 168) (L1 := [(5, .int ((0 : Int32))), (3, .long v4), (0, .ref x0), (1, .int x1), (2, .int x2)]) dX12_ground_168 (by decide) rfl ?_
  exact T.sub ((w_X12_ground_p170 (w_X12_ground_p245 hk2) FU) M8 x0 x1 x2 (0 : Int32) hF) [5] [2, 3, 4, 0] rfl rfl
set_option maxHeartbeats 4000000 in
theorem w_X12_ground_p2 {X : Option Cx} {G : EG} {res : Mem × Unit} {k251 : Mem → Nat → Option (Mem × Unit)} (hk251 : ∀ (M : Mem) (x0 : Nat), k251 M x0 = some res → T X (RV G res) P_X12_ground M [(x0, 14)] [(0, .ref x0)] [] 251) : ∀ (n : Nat) (M : Mem) (x0 : Nat) (x1 : Int32), F_X12_ground_p2 k251 n M x0 x1 = some res → T X (RV G res) P_X12_ground M [(x0, 14)] [(0, .ref x0), (1, .int x1)] [] 2 := by
  intro n
  induction n with
  | zero =>
    intro M x0 x1 hF
    cases hF
  | succ n ih =>
    intro M x0 x1 hF
    unfold F_X12_ground_p2 at hF
    refine r_iload_n (pc := 2) 1 dX12_ground_2 rfl rfl ?_
    refine r_aload_n (pc := 3) 0 dX12_ground_3 rfl rfl ?_
    refine gf_X12_154 (pc := 4) (j := 0) rfl dX12_ground_4 ?_
    refine r_icmp_ge (pc := 7) (tgt := 251) dX12_ground_7 rfl hF (fun hF => ?_) (fun hF => ?_)
    · exact T.sub (hk251 M x0 hF) [0] [0] rfl rfl
    · refine r_aload_n (pc := 10) 0 dX12_ground_10 rfl rfl ?_
      refine gf_X12_19 (pc := 11) (j := 0) rfl dX12_ground_11 ?_
      refine r_lr (by decide) hF (fun b1 hF => ?_)
      refine r_iload_n (pc := 14) 1 dX12_ground_14 rfl rfl ?_
      refine r_iald (pc := 15) (j := 0) rfl dX12_ground_15 hF (fun hF => ?_)
      refine r_iconst (pc := 16) (w := 1) dX12_ground_16 (by decide) ?_
      refine r_isub (pc := 17) dX12_ground_17 ?_
      refine r_gI (pc := 18) hF (fun v2 hF => ?_)
      refine r_istore_n (pc := 18) (L1 := [(2, .int v2), (0, .ref x0), (1, .int x1)]) dX12_ground_18 rfl (by decide) rfl ?_
      refine r_iconst (pc := 19) (w := 0) dX12_ground_19 (by decide) ?_
      refine r_istore_n (pc := 20) (L1 := [(3, .int ((0 : Int32))), (2, .int v2), (0, .ref x0), (1, .int x1)]) dX12_ground_20 rfl (by decide) rfl ?_
      exact T.sub ((w_X12_ground_p21 (w_X12_ground_p105 ih) FU) M x0 x1 v2 (0 : Int32) hF) [1] [2, 3, 1, 0] rfl rfl
set_option maxHeartbeats 4000000 in
theorem w_X12_ground_p372 {X : Option Cx} {G : EG} {res : Mem × Unit} {k265 : Mem → Nat → Int32 → Int32 → Option (Mem × Unit)} (hk265 : ∀ (M : Mem) (x0 : Nat) (x1 : Int32) (x2 : Int32), k265 M x0 x1 x2 = some res → T X (RV G res) P_X12_ground M [(x0, 14)] [(0, .ref x0), (1, .int x1), (2, .int x2)] [] 265) : ∀ (M : Mem) (x0 : Nat) (x1 : Int32) (x2 : Int32), F_X12_ground_p372 k265 M x0 x1 x2 = some res → T X (RV G res) P_X12_ground M [(x0, 14)] [(0, .ref x0), (1, .int x1), (2, .int x2)] [] 372 := by
  intro M x0 x1 x2 hF
  unfold F_X12_ground_p372 at hF
  obtain ⟨v1, e9, hF⟩ := bnd_e hF
  refine r_iinc (pc := 372) (w := v1) (k := 2) (L1 := [(2, .int v1), (0, .ref x0), (1, .int x1)]) dX12_ground_372 rfl (by rw [e9]; rfl) (by decide) rfl ?_
  clear e9
  refine r_goto (pc := 375) (tgt := 265) dX12_ground_375 rfl ?_
  exact T.sub (hk265 M x0 x1 v1 hF) [0] [1, 2, 0] rfl rfl
set_option maxHeartbeats 4000000 in
theorem w_X12_ground_p265 {X : Option Cx} {G : EG} {res : Mem × Unit} {k378 : Mem → Nat → Int32 → Option (Mem × Unit)} (hk378 : ∀ (M : Mem) (x0 : Nat) (x1 : Int32), k378 M x0 x1 = some res → T X (RV G res) P_X12_ground M [(x0, 14)] [(0, .ref x0), (1, .int x1)] [] 378) : ∀ (n : Nat) (M : Mem) (x0 : Nat) (x1 : Int32) (x2 : Int32), F_X12_ground_p265 k378 n M x0 x1 x2 = some res → T X (RV G res) P_X12_ground M [(x0, 14)] [(0, .ref x0), (1, .int x1), (2, .int x2)] [] 265 := by
  intro n
  induction n with
  | zero =>
    intro M x0 x1 x2 hF
    cases hF
  | succ n ih =>
    intro M x0 x1 x2 hF
    unfold F_X12_ground_p265 at hF
    refine r_iload_n (pc := 265) 2 dX12_ground_265 rfl rfl ?_
    refine r_aload_n (pc := 266) 0 dX12_ground_266 rfl rfl ?_
    refine gf_X12_154 (pc := 267) (j := 0) rfl dX12_ground_267 ?_
    refine r_icmp_ge (pc := 270) (tgt := 378) dX12_ground_270 rfl hF (fun hF => ?_) (fun hF => ?_)
    · exact T.sub (hk378 M x0 x1 hF) [0] [0, 1] rfl rfl
    · refine r_aload_n (pc := 273) 0 dX12_ground_273 rfl rfl ?_
      refine r_iload_n (pc := 274) 1 dX12_ground_274 rfl rfl ?_
      refine r_iload_n (pc := 275) 2 dX12_ground_275 rfl rfl ?_
      refine r_callV_I (pc := 276) (Py := P_X12_farOf) (n := 2) (As := [.int x1, .int x2]) (fun q e => k_X12_farOf G _ x0 x1 x2 q e) (c := 13) (Tb := TX12) (N := 58) rfl (by decide) (j0 := 0) rfl tw_1326 tw_1328 tw_40 tw_70 tw_1329 hd_X12_farOf ⟨Nat.le_of_ble_eq_true rfl, Nat.le_of_ble_eq_true rfl⟩ rfl [0] rfl rfl (Nat.le_of_ble_eq_true rfl) dX12_ground_276 hF (fun M1 r2 hF => ?_)
      refine r_istore_n (pc := 279) (L1 := [(3, .int r2), (0, .ref x0), (1, .int x1), (2, .int x2)]) dX12_ground_279 rfl (by decide) rfl ?_
      refine r_iload_n (pc := 280) 0 dX12_ground_280 rfl rfl ?_
      refine r_bipush (pc := 281) (w := 9) dX12_ground_281 (by decide) ?_
      refine r_icmp_gt (pc := 283) (tgt := 372) dX12_ground_283 rfl hF (fun hF => ?_) (fun hF => ?_)
      · exact T.sub ((w_X12_ground_p372 ih) M1 x0 x1 x2 hF) [0] [1, 2, 3] rfl rfl
      · refine r_bipush (pc := 286) (w := 8) dX12_ground_286 (by decide) ?_
        refine r_iload_n (pc := 288) 2 dX12_ground_288 rfl rfl ?_
        refine r_imul (pc := 289) dX12_ground_289 ?_
        refine r_aload_n (pc := 290) 1 dX12_ground_290 rfl rfl ?_
        refine gf_X12_19 (pc := 291) (j := 0) rfl dX12_ground_291 ?_
        refine r_lr (by decide) hF (fun b3 hF => ?_)
        refine r_iload_n (pc := 294) 2 dX12_ground_294 rfl rfl ?_
        refine r_iald (pc := 295) (j := 0) rfl dX12_ground_295 hF (fun hF => ?_)
        refine r_iadd (pc := 296) dX12_ground_296 ?_
        refine r_iconst (pc := 297) (w := 1) dX12_ground_297 (by decide) ?_
        refine r_isub (pc := 298) dX12_ground_298 ?_
        refine r_gI (pc := 299) hF (fun v4 hF => ?_)
        refine r_istore (pc := 299) (L1 := [(4, .int v4), (3, .int r2), (0, .ref x0), (1, .int x1), (2, .int x2)]) dX12_ground_299 (by decide) rfl ?_
        refine r_bipush (pc := 301) (w := 8) dX12_ground_301 (by decide) ?_
        refine r_iload_n (pc := 303) 4 dX12_ground_303 rfl rfl ?_
        refine r_imul (pc := 304) dX12_ground_304 ?_
        refine r_aload_n (pc := 305) 2 dX12_ground_305 rfl rfl ?_
        refine gf_X12_19 (pc := 306) (j := 1) rfl dX12_ground_306 ?_
        refine r_lr (by decide) hF (fun b5 hF => ?_)
        refine r_iload_n (pc := 309) 4 dX12_ground_309 rfl rfl ?_
        refine r_iald (pc := 310) (j := 0) rfl dX12_ground_310 hF (fun hF => ?_)
        refine r_iadd (pc := 311) dX12_ground_311 ?_
        refine r_iconst (pc := 312) (w := 1) dX12_ground_312 (by decide) ?_
        refine r_isub (pc := 313) dX12_ground_313 ?_
        refine r_gI (pc := 314) hF (fun v6 hF => ?_)
        refine r_istore (pc := 314) (L1 := [(5, .int v6), (4, .int v4), (3, .int r2), (0, .ref x0), (1, .int x1), (2, .int x2)]) dX12_ground_314 (by decide) rfl ?_
        refine r_aload_n (pc := 316) 3 dX12_ground_316 rfl rfl ?_
        refine gf_X12_181 (pc := 317) (j := 2) rfl dX12_ground_317 ?_
        refine r_i2l (pc := 320) dX12_ground_320 ?_
        refine r_aload_n (pc := 321) 3 dX12_ground_321 rfl rfl ?_
        refine gf_X12_115 (pc := 322) (j := 2) rfl dX12_ground_322 ?_
        refine r_lr (by decide) hF (fun b7 hF => ?_)
        refine r_iload (pc := 325) 1 dX12_ground_325 rfl ?_
        refine r_lald (pc := 327) (j := 0) rfl dX12_ground_327 hF (fun hF => ?_)
        refine r_aload_n (pc := 328) 3 dX12_ground_328 rfl rfl ?_
        refine gf_X12_115 (pc := 329) (j := 3) rfl dX12_ground_329 ?_
        refine r_lr (by decide) hF (fun b8 hF => ?_)
        refine r_iload (pc := 332) 0 dX12_ground_332 rfl ?_
        refine r_lald (pc := 334) (j := 0) rfl dX12_ground_334 hF (fun hF => ?_)
        refine r_lsub (pc := 335) dX12_ground_335 ?_
        refine r_lmul (pc := 336) dX12_ground_336 ?_
        refine r_ldc2 (pc := 337) (w := 100) tw_1317 dX12_ground_337 ?_
        refine r_iload_n (pc := 340) 2 dX12_ground_340 rfl rfl ?_
        refine r_iconst (pc := 341) (w := 1) dX12_ground_341 (by decide) ?_
        refine r_iadd (pc := 342) dX12_ground_342 ?_
        refine r_i2l (pc := 343) dX12_ground_343 ?_
        refine r_lmul (pc := 344) dX12_ground_344 ?_
        refine r_ldiv (pc := 345) dX12_ground_345 hF (fun hF => ?_)
        refine r_gJ (pc := 346) hF (fun v9 hF => ?_)
        refine r_lstore (pc := 346) (L1 := [(6, .long v9), (5, .int v6), (4, .int v4), (3, .int r2), (0, .ref x0), (1, .int x1), (2, .int x2)]) dX12_ground_346 (by decide) rfl ?_
        refine r_aload_n (pc := 348) 4 dX12_ground_348 rfl rfl ?_
        refine gf_X12_41 (pc := 349) (j := 4) rfl dX12_ground_349 ?_
        refine r_lr (by decide) hF (fun b10 hF => ?_)
        refine r_iload (pc := 352) 2 dX12_ground_352 rfl ?_
        refine r_dup2 (pc := 354) dX12_ground_354 rfl rfl ?_
        refine r_lald (pc := 355) (j := 0) rfl dX12_ground_355 hF (fun hF => ?_)
        refine r_lload (pc := 356) 0 dX12_ground_356 rfl ?_
        refine r_lsub (pc := 358) dX12_ground_358 ?_
        refine r_last (pc := 359) (j := 0) rfl dX12_ground_359 hF (fun M11 hF => ?_)
        refine r_aload_n (pc := 360) 4 dX12_ground_360 rfl rfl ?_
        refine gf_X12_41 (pc := 361) (j := 5) rfl dX12_ground_361 ?_
        refine r_lr (by decide) hF (fun b12 hF => ?_)
        refine r_iload (pc := 364) 1 dX12_ground_364 rfl ?_
        refine r_dup2 (pc := 366) dX12_ground_366 rfl rfl ?_
        refine r_lald (pc := 367) (j := 0) rfl dX12_ground_367 hF (fun hF => ?_)
        refine r_lload (pc := 368) 0 dX12_ground_368 rfl ?_
        refine r_ladd (pc := 370) dX12_ground_370 ?_
        refine r_last (pc := 371) (j := 0) rfl dX12_ground_371 hF (fun M13 hF => ?_)
        exact T.sub ((w_X12_ground_p372 ih) M13 x0 x1 x2 hF) [6] [4, 5, 6] rfl rfl
set_option maxHeartbeats 4000000 in
theorem w_X12_ground_p378 {X : Option Cx} {G : EG} {res : Mem × Unit} {k253 : Mem → Nat → Int32 → Option (Mem × Unit)} (hk253 : ∀ (M : Mem) (x0 : Nat) (x1 : Int32), k253 M x0 x1 = some res → T X (RV G res) P_X12_ground M [(x0, 14)] [(0, .ref x0), (1, .int x1)] [] 253) : ∀ (M : Mem) (x0 : Nat) (x1 : Int32), F_X12_ground_p378 k253 M x0 x1 = some res → T X (RV G res) P_X12_ground M [(x0, 14)] [(0, .ref x0), (1, .int x1)] [] 378 := by
  intro M x0 x1 hF
  unfold F_X12_ground_p378 at hF
  obtain ⟨v1, e9, hF⟩ := bnd_e hF
  refine r_iinc (pc := 378) (w := v1) (k := 1) (L1 := [(1, .int v1), (0, .ref x0)]) dX12_ground_378 rfl (by rw [e9]; rfl) (by decide) rfl ?_
  clear e9
  refine r_goto (pc := 381) (tgt := 253) dX12_ground_381 rfl ?_
  exact T.sub (hk253 M x0 v1 hF) [0] [1, 0] rfl rfl
set_option maxHeartbeats 4000000 in
theorem w_X12_ground_p253 {X : Option Cx} {G : EG} {res : Mem × Unit} {k384 : Mem → Option (Mem × Unit)} (hk384 : ∀ (M : Mem), k384 M = some res → T X (RV G res) P_X12_ground M [] [] [] 384) : ∀ (n : Nat) (M : Mem) (x0 : Nat) (x1 : Int32), F_X12_ground_p253 k384 n M x0 x1 = some res → T X (RV G res) P_X12_ground M [(x0, 14)] [(0, .ref x0), (1, .int x1)] [] 253 := by
  intro n
  induction n with
  | zero =>
    intro M x0 x1 hF
    cases hF
  | succ n ih =>
    intro M x0 x1 hF
    unfold F_X12_ground_p253 at hF
    refine r_iload_n (pc := 253) 1 dX12_ground_253 rfl rfl ?_
    refine r_aload_n (pc := 254) 0 dX12_ground_254 rfl rfl ?_
    refine gf_X12_154 (pc := 255) (j := 0) rfl dX12_ground_255 ?_
    refine r_icmp_ge (pc := 258) (tgt := 384) dX12_ground_258 rfl hF (fun hF => ?_) (fun hF => ?_)
    · exact T.sub (hk384 M hF) [] [] rfl rfl
    · refine r_iload_n (pc := 261) 1 dX12_ground_261 rfl rfl ?_
      refine r_iconst (pc := 262) (w := 1) dX12_ground_262 (by decide) ?_
      refine r_iadd (pc := 263) dX12_ground_263 ?_
      refine r_gI (pc := 264) hF (fun v1 hF => ?_)
      refine r_istore_n (pc := 264) (L1 := [(2, .int v1), (0, .ref x0), (1, .int x1)]) dX12_ground_264 rfl (by decide) rfl ?_
      exact T.sub ((w_X12_ground_p265 (w_X12_ground_p378 ih) FU) M x0 x1 v1 hF) [0] [1, 2, 0] rfl rfl
set_option maxHeartbeats 4000000 in
theorem w_X12_ground_p384 {X : Option Cx} {G : EG} {res : Mem × Unit} : ∀ (M : Mem), F_X12_ground_p384 M = some res → T X (RV G res) P_X12_ground M [] [] [] 384 := by
  intro M hF
  unfold F_X12_ground_p384 at hF
  exact r_vret (pc := 384) dX12_ground_384 hF
set_option maxHeartbeats 4000000 in
theorem w_X12_ground_p251 {X : Option Cx} {G : EG} {res : Mem × Unit} : ∀ (M : Mem) (x0 : Nat), F_X12_ground_p251 M x0 = some res → T X (RV G res) P_X12_ground M [(x0, 14)] [(0, .ref x0)] [] 251 := by
  intro M x0 hF
  unfold F_X12_ground_p251 at hF
  refine r_iconst (pc := 251) (w := 0) dX12_ground_251 (by decide) ?_
  refine r_istore_n (pc := 252) (L1 := [(1, .int ((0 : Int32))), (0, .ref x0)]) dX12_ground_252 rfl (by decide) rfl ?_
  exact T.sub ((w_X12_ground_p253 (w_X12_ground_p384) FU) M x0 (0 : Int32) hF) [0] [1, 0] rfl rfl
set_option maxHeartbeats 4000000 in
theorem w_X12_ground {X : Option Cx} {G : EG} {res : Mem × Unit} (M : Mem) (a0 : Nat) (hF : F_X12_ground M a0 = some res) : T X (RV G res) P_X12_ground M [(a0, 14)] [(0, .ref a0)] [] 0 := by
  unfold F_X12_ground at hF
  refine r_iconst (pc := 0) (w := 0) dX12_ground_0 (by decide) ?_
  refine r_istore_n (pc := 1) (L1 := [(1, .int ((0 : Int32))), (0, .ref a0)]) dX12_ground_1 rfl (by decide) rfl ?_
  exact T.sub ((w_X12_ground_p2 (w_X12_ground_p251) FU) M a0 (0 : Int32) hF) [0] [1, 0] rfl rfl
theorem k_X12_ground (G : EG) (M : Mem) (a0 : Nat) (q : Mem × Unit) (h : F_X12_ground M a0 = some q) : Kt yX12_ground P_X12_ground M [(a0, 14)] [.ref a0] (RV G q) := Kt.of (by decide +kernel) rfl (Nat.le_of_ble_eq_true rfl) rfl (fun X hz => w_X12_ground M a0 h)
set_option maxHeartbeats 4000000 in
theorem w_X12_goes_p90 {X : Option Cx} {G : EG} {res : Mem × Unit} {k20 : Mem → Nat → Int64 → Int32 → Option (Mem × Unit)} (hk20 : ∀ (M : Mem) (x0 : Nat) (x1 : Int64) (x3 : Int32), k20 M x0 x1 x3 = some res → T X (RV G res) P_X12_goes M [(x0, 14)] [(0, .ref x0), (1, .long x1), (3, .int x3)] [] 20) : ∀ (M : Mem) (x0 : Nat) (x1 : Int64) (x3 : Int32), F_X12_goes_p90 k20 M x0 x1 x3 = some res → T X (RV G res) P_X12_goes M [(x0, 14)] [(0, .ref x0), (1, .long x1), (3, .int x3)] [] 90 := by
  intro M x0 x1 x3 hF
  unfold F_X12_goes_p90 at hF
  obtain ⟨v1, e9, hF⟩ := bnd_e hF
  refine r_iinc (pc := 90) (w := v1) (k := 2) (L1 := [(3, .int v1), (0, .ref x0), (1, .long x1)]) dX12_goes_90 rfl (by rw [e9]; rfl) (by decide) rfl ?_
  clear e9
  refine r_goto (pc := 93) (tgt := 20) dX12_goes_93 rfl ?_
  exact T.sub (hk20 M x0 x1 v1 hF) [0] [1, 2, 0] rfl rfl
set_option maxHeartbeats 4000000 in
theorem w_X12_goes_p58 {X : Option Cx} {G : EG} {res : Mem × Unit} {k20 : Mem → Nat → Int64 → Int32 → Option (Mem × Unit)} (hk20 : ∀ (M : Mem) (x0 : Nat) (x1 : Int64) (x3 : Int32), k20 M x0 x1 x3 = some res → T X (RV G res) P_X12_goes M [(x0, 14)] [(0, .ref x0), (1, .long x1), (3, .int x3)] [] 20) : ∀ (M : Mem) (x0 : Nat) (x1 : Int64) (x3 : Int32) (y0 : Int64), F_X12_goes_p58 k20 M x0 x1 x3 y0 = some res → T X (RV G res) P_X12_goes M [(x0, 14)] [(0, .ref x0), (1, .long x1), (3, .int x3)] [.long y0] 58 := by
  intro M x0 x1 x3 y0 hF
  unfold F_X12_goes_p58 at hF
  refine r_lstore (pc := 58) (L1 := [(4, .long y0), (0, .ref x0), (1, .long x1), (3, .int x3)]) dX12_goes_58 (by decide) rfl ?_
  refine r_lload_n (pc := 60) 2 dX12_goes_60 rfl rfl ?_
  refine r_lload (pc := 61) 0 dX12_goes_61 rfl ?_
  refine r_lsub (pc := 63) dX12_goes_63 ?_
  refine r_gJ (pc := 64) hF (fun v1 hF => ?_)
  refine r_lstore_n (pc := 64) (L1 := [(1, .long v1), (4, .long y0), (0, .ref x0), (3, .int x3)]) dX12_goes_64 rfl (by decide) rfl ?_
  refine r_aload_n (pc := 65) 2 dX12_goes_65 rfl rfl ?_
  refine gf_X12_41 (pc := 66) (j := 0) rfl dX12_goes_66 ?_
  refine r_lr (by decide) hF (fun b2 hF => ?_)
  refine r_bipush (pc := 69) (w := 8) dX12_goes_69 (by decide) ?_
  refine r_iload_n (pc := 71) 3 dX12_goes_71 rfl rfl ?_
  refine r_imul (pc := 72) dX12_goes_72 ?_
  refine r_dup2 (pc := 73) dX12_goes_73 rfl rfl ?_
  refine r_lald (pc := 74) (j := 0) rfl dX12_goes_74 hF (fun hF => ?_)
  refine r_lload (pc := 75) 1 dX12_goes_75 rfl ?_
  refine r_ladd (pc := 77) dX12_goes_77 ?_
  refine r_last (pc := 78) (j := 0) rfl dX12_goes_78 hF (fun M3 hF => ?_)
  refine r_aload_n (pc := 79) 2 dX12_goes_79 rfl rfl ?_
  refine gf_X12_48 (pc := 80) (j := 1) rfl dX12_goes_80 ?_
  refine r_lr (by decide) hF (fun b4 hF => ?_)
  refine r_iconst (pc := 83) (w := 0) dX12_goes_83 (by decide) ?_
  refine r_dup2 (pc := 84) dX12_goes_84 rfl rfl ?_
  refine r_lald (pc := 85) (j := 0) rfl dX12_goes_85 hF (fun hF => ?_)
  refine r_lload (pc := 86) 1 dX12_goes_86 rfl ?_
  refine r_ladd (pc := 88) dX12_goes_88 ?_
  refine r_last (pc := 89) (j := 0) rfl dX12_goes_89 hF (fun M5 hF => ?_)
  exact T.sub ((w_X12_goes_p90 hk20) M5 x0 v1 x3 hF) [2] [2, 0, 3] rfl rfl
set_option maxHeartbeats 4000000 in
theorem w_X12_goes_p20 {X : Option Cx} {G : EG} {res : Mem × Unit} {k96 : Mem → Nat → Int64 → Option (Mem × Unit)} (hk96 : ∀ (M : Mem) (x0 : Nat) (x1 : Int64), k96 M x0 x1 = some res → T X (RV G res) P_X12_goes M [(x0, 14)] [(0, .ref x0), (1, .long x1)] [] 96) : ∀ (n : Nat) (M : Mem) (x0 : Nat) (x1 : Int64) (x3 : Int32), F_X12_goes_p20 k96 n M x0 x1 x3 = some res → T X (RV G res) P_X12_goes M [(x0, 14)] [(0, .ref x0), (1, .long x1), (3, .int x3)] [] 20 := by
  intro n
  induction n with
  | zero =>
    intro M x0 x1 x3 hF
    cases hF
  | succ n ih =>
    intro M x0 x1 x3 hF
    unfold F_X12_goes_p20 at hF
    refine r_iload_n (pc := 20) 2 dX12_goes_20 rfl rfl ?_
    refine r_aload_n (pc := 21) 0 dX12_goes_21 rfl rfl ?_
    refine gf_X12_154 (pc := 22) (j := 0) rfl dX12_goes_22 ?_
    refine r_icmp_ge (pc := 25) (tgt := 96) dX12_goes_25 rfl hF (fun hF => ?_) (fun hF => ?_)
    · exact T.sub (hk96 M x0 x1 hF) [0] [0, 1] rfl rfl
    · refine r_aload_n (pc := 28) 0 dX12_goes_28 rfl rfl ?_
      refine gf_X12_37 (pc := 29) (j := 0) rfl dX12_goes_29 ?_
      refine r_lr (by decide) hF (fun b1 hF => ?_)
      refine r_iload_n (pc := 32) 2 dX12_goes_32 rfl rfl ?_
      refine r_zald (pc := 33) (j := 0) rfl dX12_goes_33 hF (fun hF => ?_)
      refine r_if_eq (pc := 34) (tgt := 90) dX12_goes_34 rfl hF (fun hF => ?_) (fun hF => ?_)
      · exact T.sub ((w_X12_goes_p90 ih) M x0 x1 x3 hF) [1] [0, 1, 2] rfl rfl
      · refine r_aload_n (pc := 37) 0 dX12_goes_37 rfl rfl ?_
        refine gf_X12_121 (pc := 38) (j := 1) rfl dX12_goes_38 ?_
        refine r_lr (by decide) hF (fun b2 hF => ?_)
        refine r_iload_n (pc := 41) 2 dX12_goes_41 rfl rfl ?_
        refine r_lald (pc := 42) (j := 0) rfl dX12_goes_42 hF (fun hF => ?_)
        refine r_lload_n (pc := 43) 1 dX12_goes_43 rfl rfl ?_
        refine r_lcmp (pc := 44) dX12_goes_44 ?_
        refine r_if_ge (pc := 45) (tgt := 57) dX12_goes_45 rfl hF (fun hF => ?_) (fun hF => ?_)
        · refine r_lload_n (pc := 57) 1 dX12_goes_57 rfl rfl ?_
          exact T.sub ((w_X12_goes_p58 ih) M x0 x1 x3 x1 hF) [2] [0, 1, 2] rfl rfl
        · refine r_aload_n (pc := 48) 0 dX12_goes_48 rfl rfl ?_
          refine gf_X12_121 (pc := 49) (j := 2) rfl dX12_goes_49 ?_
          refine r_lr (by decide) hF (fun b3 hF => ?_)
          refine r_iload_n (pc := 52) 2 dX12_goes_52 rfl rfl ?_
          refine r_lald (pc := 53) (j := 0) rfl dX12_goes_53 hF (fun hF => ?_)
          refine r_goto (pc := 54) (tgt := 58) dX12_goes_54 rfl ?_
          exact T.sub ((w_X12_goes_p58 ih) M x0 x1 x3 (gB M b3 (ixn x3)) hF) [3] [0, 1, 2] rfl rfl
set_option maxHeartbeats 4000000 in
theorem w_X12_goes_p329 {X : Option Cx} {G : EG} {res : Mem × Unit} {k121 : Mem → Nat → Int64 → Int64 → Int32 → Option (Mem × Unit)} (hk121 : ∀ (M : Mem) (x0 : Nat) (x3 : Int64) (x5 : Int64) (x7 : Int32), k121 M x0 x3 x5 x7 = some res → T X (RV G res) P_X12_goes M [(x0, 14)] [(0, .ref x0), (3, .long x3), (5, .long x5), (7, .int x7)] [] 121) : ∀ (M : Mem) (x0 : Nat) (x3 : Int64) (x5 : Int64) (x7 : Int32), F_X12_goes_p329 k121 M x0 x3 x5 x7 = some res → T X (RV G res) P_X12_goes M [(x0, 14)] [(0, .ref x0), (3, .long x3), (5, .long x5), (7, .int x7)] [] 329 := by
  intro M x0 x3 x5 x7 hF
  unfold F_X12_goes_p329 at hF
  obtain ⟨v1, e9, hF⟩ := bnd_e hF
  refine r_iinc (pc := 329) (w := v1) (k := 3) (L1 := [(7, .int v1), (0, .ref x0), (3, .long x3), (5, .long x5)]) dX12_goes_329 rfl (by rw [e9]; rfl) (by decide) rfl ?_
  clear e9
  refine r_goto (pc := 332) (tgt := 121) dX12_goes_332 rfl ?_
  exact T.sub (hk121 M x0 x3 x5 v1 hF) [0] [1, 2, 3, 0] rfl rfl
set_option maxHeartbeats 4000000 in
theorem w_X12_goes_p247 {X : Option Cx} {G : EG} {res : Mem × Unit} {k121 : Mem → Nat → Int64 → Int64 → Int32 → Option (Mem × Unit)} (hk121 : ∀ (M : Mem) (x0 : Nat) (x3 : Int64) (x5 : Int64) (x7 : Int32), k121 M x0 x3 x5 x7 = some res → T X (RV G res) P_X12_goes M [(x0, 14)] [(0, .ref x0), (3, .long x3), (5, .long x5), (7, .int x7)] [] 121) : ∀ (M : Mem) (x0 : Nat) (x3 : Int64) (x5 : Int64) (x7 : Int32) (y0 : Int64), F_X12_goes_p247 k121 M x0 x3 x5 x7 y0 = some res → T X (RV G res) P_X12_goes M [(x0, 14)] [(0, .ref x0), (3, .long x3), (5, .long x5), (7, .int x7)] [.long y0] 247 := by
  intro M x0 x3 x5 x7 y0 hF
  unfold F_X12_goes_p247 at hF
  refine r_lstore (pc := 247) (L1 := [(8, .long y0), (0, .ref x0), (3, .long x3), (5, .long x5), (7, .int x7)]) dX12_goes_247 (by decide) rfl ?_
  refine r_lload (pc := 249) 0 dX12_goes_249 rfl ?_
  refine r_aload_n (pc := 251) 1 dX12_goes_251 rfl rfl ?_
  refine gf_X12_127 (pc := 252) (j := 0) rfl dX12_goes_252 ?_
  refine r_lr (by decide) hF (fun b1 hF => ?_)
  refine r_iload (pc := 255) 4 dX12_goes_255 rfl ?_
  refine r_lald (pc := 257) (j := 0) rfl dX12_goes_257 hF (fun hF => ?_)
  refine r_lmul (pc := 258) dX12_goes_258 ?_
  refine r_ldc2 (pc := 259) (w := 100) tw_1317 dX12_goes_259 ?_
  refine r_ldivc (pc := 262) dX12_goes_262 (by decide) ?_
  refine r_gJ (pc := 263) hF (fun v2 hF => ?_)
  refine r_lstore (pc := 263) (L1 := [(12, .long v2), (8, .long y0), (0, .ref x0), (3, .long x3), (5, .long x5), (7, .int x7)]) dX12_goes_263 (by decide) rfl ?_
  refine r_aload_n (pc := 265) 2 dX12_goes_265 rfl rfl ?_
  refine gf_X12_41 (pc := 266) (j := 1) rfl dX12_goes_266 ?_
  refine r_lr (by decide) hF (fun b3 hF => ?_)
  refine r_bipush (pc := 269) (w := 8) dX12_goes_269 (by decide) ?_
  refine r_iload (pc := 271) 5 dX12_goes_271 rfl ?_
  refine r_imul (pc := 273) dX12_goes_273 ?_
  refine r_dup2 (pc := 274) dX12_goes_274 rfl rfl ?_
  refine r_lald (pc := 275) (j := 0) rfl dX12_goes_275 hF (fun hF => ?_)
  refine r_lload (pc := 276) 1 dX12_goes_276 rfl ?_
  refine r_lsub (pc := 278) dX12_goes_278 ?_
  refine r_last (pc := 279) (j := 0) rfl dX12_goes_279 hF (fun M4 hF => ?_)
  refine r_aload_n (pc := 280) 2 dX12_goes_280 rfl rfl ?_
  refine gf_X12_45 (pc := 281) (j := 2) rfl dX12_goes_281 ?_
  refine r_lr (by decide) hF (fun b5 hF => ?_)
  refine r_iload (pc := 284) 5 dX12_goes_284 rfl ?_
  refine r_dup2 (pc := 286) dX12_goes_286 rfl rfl ?_
  refine r_lald (pc := 287) (j := 0) rfl dX12_goes_287 hF (fun hF => ?_)
  refine r_lload (pc := 288) 1 dX12_goes_288 rfl ?_
  refine r_ladd (pc := 290) dX12_goes_290 ?_
  refine r_last (pc := 291) (j := 0) rfl dX12_goes_291 hF (fun M6 hF => ?_)
  refine r_aload_n (pc := 292) 2 dX12_goes_292 rfl rfl ?_
  refine gf_X12_48 (pc := 293) (j := 3) rfl dX12_goes_293 ?_
  refine r_lr (by decide) hF (fun b7 hF => ?_)
  refine r_iconst (pc := 296) (w := 2) dX12_goes_296 (by decide) ?_
  refine r_dup2 (pc := 297) dX12_goes_297 rfl rfl ?_
  refine r_lald (pc := 298) (j := 0) rfl dX12_goes_298 hF (fun hF => ?_)
  refine r_lload (pc := 299) 1 dX12_goes_299 rfl ?_
  refine r_ladd (pc := 301) dX12_goes_301 ?_
  refine r_last (pc := 302) (j := 0) rfl dX12_goes_302 hF (fun M8 hF => ?_)
  refine r_aload_n (pc := 303) 2 dX12_goes_303 rfl rfl ?_
  refine gf_X12_48 (pc := 304) (j := 4) rfl dX12_goes_304 ?_
  refine r_lr (by decide) hF (fun b9 hF => ?_)
  refine r_iconst (pc := 307) (w := 3) dX12_goes_307 (by decide) ?_
  refine r_dup2 (pc := 308) dX12_goes_308 rfl rfl ?_
  refine r_lald (pc := 309) (j := 0) rfl dX12_goes_309 hF (fun hF => ?_)
  refine r_lload (pc := 310) 0 dX12_goes_310 rfl ?_
  refine r_ladd (pc := 312) dX12_goes_312 ?_
  refine r_last (pc := 313) (j := 0) rfl dX12_goes_313 hF (fun M10 hF => ?_)
  refine r_lload (pc := 314) 4 dX12_goes_314 rfl ?_
  refine r_lload (pc := 316) 0 dX12_goes_316 rfl ?_
  refine r_lload (pc := 318) 1 dX12_goes_318 rfl ?_
  refine r_lsub (pc := 320) dX12_goes_320 ?_
  refine r_ladd (pc := 321) dX12_goes_321 ?_
  refine r_gJ (pc := 322) hF (fun v11 hF => ?_)
  refine r_lstore (pc := 322) (L1 := [(5, .long v11), (12, .long v2), (8, .long y0), (0, .ref x0), (3, .long x3), (7, .int x7)]) dX12_goes_322 (by decide) rfl ?_
  refine r_lload_n (pc := 324) 4 dX12_goes_324 rfl rfl ?_
  refine r_lload (pc := 325) 1 dX12_goes_325 rfl ?_
  refine r_lsub (pc := 327) dX12_goes_327 ?_
  refine r_gJ (pc := 328) hF (fun v12 hF => ?_)
  refine r_lstore_n (pc := 328) (L1 := [(3, .long v12), (5, .long v11), (12, .long v2), (8, .long y0), (0, .ref x0), (7, .int x7)]) dX12_goes_328 rfl (by decide) rfl ?_
  exact T.sub ((w_X12_goes_p329 hk121) M10 x0 v12 v11 x7 hF) [5] [4, 0, 1, 5] rfl rfl
set_option maxHeartbeats 4000000 in
theorem w_X12_goes_p230 {X : Option Cx} {G : EG} {res : Mem × Unit} {k121 : Mem → Nat → Int64 → Int64 → Int32 → Option (Mem × Unit)} (hk121 : ∀ (M : Mem) (x0 : Nat) (x3 : Int64) (x5 : Int64) (x7 : Int32), k121 M x0 x3 x5 x7 = some res → T X (RV G res) P_X12_goes M [(x0, 14)] [(0, .ref x0), (3, .long x3), (5, .long x5), (7, .int x7)] [] 121) : ∀ (M : Mem) (x0 : Nat) (x3 : Int64) (x5 : Int64) (x7 : Int32) (x10 : Int64) (y0 : Int64), F_X12_goes_p230 k121 M x0 x3 x5 x7 x10 y0 = some res → T X (RV G res) P_X12_goes M [(x0, 14)] [(0, .ref x0), (3, .long x3), (5, .long x5), (7, .int x7), (10, .long x10)] [.long y0] 230 := by
  intro M x0 x3 x5 x7 x10 y0 hF
  unfold F_X12_goes_p230 at hF
  refine r_lstore (pc := 230) (L1 := [(8, .long y0), (0, .ref x0), (3, .long x3), (5, .long x5), (7, .int x7), (10, .long x10)]) dX12_goes_230 (by decide) rfl ?_
  refine r_lload (pc := 232) 0 dX12_goes_232 rfl ?_
  refine r_lload (pc := 234) 5 dX12_goes_234 rfl ?_
  refine r_lcmp (pc := 236) dX12_goes_236 ?_
  refine r_if_le (pc := 237) (tgt := 245) dX12_goes_237 rfl hF (fun hF => ?_) (fun hF => ?_)
  · refine r_lload (pc := 245) 0 dX12_goes_245 rfl ?_
    exact T.sub ((w_X12_goes_p247 hk121) M x0 x3 x5 x7 y0 hF) [0] [1, 2, 3, 4] rfl rfl
  · refine r_lload (pc := 240) 5 dX12_goes_240 rfl ?_
    refine r_goto (pc := 242) (tgt := 247) dX12_goes_242 rfl ?_
    exact T.sub ((w_X12_goes_p247 hk121) M x0 x3 x5 x7 x10 hF) [0] [1, 2, 3, 4] rfl rfl
set_option maxHeartbeats 4000000 in
theorem w_X12_goes_p203 {X : Option Cx} {G : EG} {res : Mem × Unit} {k121 : Mem → Nat → Int64 → Int64 → Int32 → Option (Mem × Unit)} (hk121 : ∀ (M : Mem) (x0 : Nat) (x3 : Int64) (x5 : Int64) (x7 : Int32), k121 M x0 x3 x5 x7 = some res → T X (RV G res) P_X12_goes M [(x0, 14)] [(0, .ref x0), (3, .long x3), (5, .long x5), (7, .int x7)] [] 121) : ∀ (M : Mem) (x0 : Nat) (x3 : Int64) (x5 : Int64) (x7 : Int32) (x8 : Int64) (y0 : Int64), F_X12_goes_p203 k121 M x0 x3 x5 x7 x8 y0 = some res → T X (RV G res) P_X12_goes M [(x0, 14)] [(0, .ref x0), (3, .long x3), (5, .long x5), (7, .int x7), (8, .long x8)] [.long y0] 203 := by
  intro M x0 x3 x5 x7 x8 y0 hF
  unfold F_X12_goes_p203 at hF
  refine r_lstore (pc := 203) (L1 := [(10, .long y0), (0, .ref x0), (3, .long x3), (5, .long x5), (7, .int x7), (8, .long x8)]) dX12_goes_203 (by decide) rfl ?_
  refine r_lload (pc := 205) 5 dX12_goes_205 rfl ?_
  refine r_aload_n (pc := 207) 1 dX12_goes_207 rfl rfl ?_
  refine gf_X12_124 (pc := 208) (j := 0) rfl dX12_goes_208 ?_
  refine r_lr (by decide) hF (fun b1 hF => ?_)
  refine r_iload (pc := 211) 4 dX12_goes_211 rfl ?_
  refine r_lald (pc := 213) (j := 0) rfl dX12_goes_213 hF (fun hF => ?_)
  refine r_lcmp (pc := 214) dX12_goes_214 ?_
  refine r_if_le (pc := 215) (tgt := 228) dX12_goes_215 rfl hF (fun hF => ?_) (fun hF => ?_)
  · refine r_lload (pc := 228) 5 dX12_goes_228 rfl ?_
    exact T.sub ((w_X12_goes_p230 hk121) M x0 x3 x5 x7 y0 x8 hF) [1] [1, 2, 3, 4, 0] rfl rfl
  · refine r_aload_n (pc := 218) 1 dX12_goes_218 rfl rfl ?_
    refine gf_X12_124 (pc := 219) (j := 1) rfl dX12_goes_219 ?_
    refine r_lr (by decide) hF (fun b2 hF => ?_)
    refine r_iload (pc := 222) 4 dX12_goes_222 rfl ?_
    refine r_lald (pc := 224) (j := 0) rfl dX12_goes_224 hF (fun hF => ?_)
    refine r_goto (pc := 225) (tgt := 230) dX12_goes_225 rfl ?_
    exact T.sub ((w_X12_goes_p230 hk121) M x0 x3 x5 x7 y0 (gB M b2 (ixn x7)) hF) [2] [1, 2, 3, 4, 0] rfl rfl
set_option maxHeartbeats 4000000 in
theorem w_X12_goes_p121 {X : Option Cx} {G : EG} {res : Mem × Unit} {k335 : Mem → Nat → Int64 → Int64 → Option (Mem × Unit)} (hk335 : ∀ (M : Mem) (x0 : Nat) (x3 : Int64) (x5 : Int64), k335 M x0 x3 x5 = some res → T X (RV G res) P_X12_goes M [(x0, 14)] [(0, .ref x0), (3, .long x3), (5, .long x5)] [] 335) : ∀ (n : Nat) (M : Mem) (x0 : Nat) (x3 : Int64) (x5 : Int64) (x7 : Int32), F_X12_goes_p121 k335 n M x0 x3 x5 x7 = some res → T X (RV G res) P_X12_goes M [(x0, 14)] [(0, .ref x0), (3, .long x3), (5, .long x5), (7, .int x7)] [] 121 := by
  intro n
  induction n with
  | zero =>
    intro M x0 x3 x5 x7 hF
    cases hF
  | succ n ih =>
    intro M x0 x3 x5 x7 hF
    unfold F_X12_goes_p121 at hF
    refine r_iload (pc := 121) 3 dX12_goes_121 rfl ?_
    refine r_aload_n (pc := 123) 0 dX12_goes_123 rfl rfl ?_
    refine gf_X12_154 (pc := 124) (j := 0) rfl dX12_goes_124 ?_
    refine r_icmp_ge (pc := 127) (tgt := 335) dX12_goes_127 rfl hF (fun hF => ?_) (fun hF => ?_)
    · exact T.sub (hk335 M x0 x3 x5 hF) [0] [0, 1, 2] rfl rfl
    · refine r_aload_n (pc := 130) 0 dX12_goes_130 rfl rfl ?_
      refine gf_X12_37 (pc := 131) (j := 0) rfl dX12_goes_131 ?_
      refine r_lr (by decide) hF (fun b1 hF => ?_)
      refine r_iload (pc := 134) 3 dX12_goes_134 rfl ?_
      refine r_zald (pc := 136) (j := 0) rfl dX12_goes_136 hF (fun hF => ?_)
      refine r_if_eq (pc := 137) (tgt := 329) dX12_goes_137 rfl hF (fun hF => ?_) (fun hF => ?_)
      · exact T.sub ((w_X12_goes_p329 ih) M x0 x3 x5 x7 hF) [1] [0, 1, 2, 3] rfl rfl
      · refine r_aload_n (pc := 140) 0 dX12_goes_140 rfl rfl ?_
        refine gf_X12_115 (pc := 141) (j := 1) rfl dX12_goes_141 ?_
        refine r_lr (by decide) hF (fun b2 hF => ?_)
        refine r_bipush (pc := 144) (w := 8) dX12_goes_144 (by decide) ?_
        refine r_iload (pc := 146) 3 dX12_goes_146 rfl ?_
        refine r_imul (pc := 148) dX12_goes_148 ?_
        refine r_lald (pc := 149) (j := 0) rfl dX12_goes_149 hF (fun hF => ?_)
        refine r_lconst (pc := 150) (w := 0) dX12_goes_150 (by decide) ?_
        refine r_lcmp (pc := 151) dX12_goes_151 ?_
        refine r_if_le (pc := 152) (tgt := 329) dX12_goes_152 rfl hF (fun hF => ?_) (fun hF => ?_)
        · exact T.sub ((w_X12_goes_p329 ih) M x0 x3 x5 x7 hF) [2] [0, 1, 2, 3] rfl rfl
        · refine r_lload_n (pc := 155) 1 dX12_goes_155 rfl rfl ?_
          refine r_lconst (pc := 156) (w := 1) dX12_goes_156 (by decide) ?_
          refine r_ladd (pc := 157) dX12_goes_157 ?_
          refine r_ldc2 (pc := 158) (w := 100) tw_1317 dX12_goes_158 ?_
          refine r_lmul (pc := 161) dX12_goes_161 ?_
          refine r_lconst (pc := 162) (w := 1) dX12_goes_162 (by decide) ?_
          refine r_lsub (pc := 163) dX12_goes_163 ?_
          refine r_aload_n (pc := 164) 0 dX12_goes_164 rfl rfl ?_
          refine gf_X12_127 (pc := 165) (j := 2) rfl dX12_goes_165 ?_
          refine r_lr (by decide) hF (fun b3 hF => ?_)
          refine r_iload (pc := 168) 3 dX12_goes_168 rfl ?_
          refine r_lald (pc := 170) (j := 0) rfl dX12_goes_170 hF (fun hF => ?_)
          refine r_ldiv (pc := 171) dX12_goes_171 hF (fun hF => ?_)
          refine r_gJ (pc := 172) hF (fun v4 hF => ?_)
          refine r_lstore (pc := 172) (L1 := [(8, .long v4), (0, .ref x0), (3, .long x3), (5, .long x5), (7, .int x7)]) dX12_goes_172 (by decide) rfl ?_
          refine r_aload_n (pc := 174) 1 dX12_goes_174 rfl rfl ?_
          refine gf_X12_41 (pc := 175) (j := 3) rfl dX12_goes_175 ?_
          refine r_lr (by decide) hF (fun b5 hF => ?_)
          refine r_bipush (pc := 178) (w := 8) dX12_goes_178 (by decide) ?_
          refine r_iload (pc := 180) 4 dX12_goes_180 rfl ?_
          refine r_imul (pc := 182) dX12_goes_182 ?_
          refine r_lald (pc := 183) (j := 0) rfl dX12_goes_183 hF (fun hF => ?_)
          refine r_lconst (pc := 184) (w := 0) dX12_goes_184 (by decide) ?_
          refine r_lcmp (pc := 185) dX12_goes_185 ?_
          refine r_if_ge (pc := 186) (tgt := 193) dX12_goes_186 rfl hF (fun hF => ?_) (fun hF => ?_)
          · refine r_aload_n (pc := 193) 1 dX12_goes_193 rfl rfl ?_
            refine gf_X12_41 (pc := 194) (j := 4) rfl dX12_goes_194 ?_
            refine r_lr (by decide) hF (fun b6 hF => ?_)
            refine r_bipush (pc := 197) (w := 8) dX12_goes_197 (by decide) ?_
            refine r_iload (pc := 199) 4 dX12_goes_199 rfl ?_
            refine r_imul (pc := 201) dX12_goes_201 ?_
            refine r_lald (pc := 202) (j := 0) rfl dX12_goes_202 hF (fun hF => ?_)
            exact T.sub ((w_X12_goes_p203 ih) M x0 x3 x5 x7 v4 (gB M b6 (ixn ((8 : Int32) * x7))) hF) [5] [1, 2, 3, 4, 0] rfl rfl
          · refine r_lconst (pc := 189) (w := 0) dX12_goes_189 (by decide) ?_
            refine r_goto (pc := 190) (tgt := 203) dX12_goes_190 rfl ?_
            exact T.sub ((w_X12_goes_p203 ih) M x0 x3 x5 x7 v4 (0 : Int64) hF) [4] [1, 2, 3, 4, 0] rfl rfl
set_option maxHeartbeats 4000000 in
theorem w_X12_goes_p335 {X : Option Cx} {G : EG} {res : Mem × Unit} : ∀ (M : Mem) (x0 : Nat) (x3 : Int64) (x5 : Int64), F_X12_goes_p335 M x0 x3 x5 = some res → T X (RV G res) P_X12_goes M [(x0, 14)] [(0, .ref x0), (3, .long x3), (5, .long x5)] [] 335 := by
  intro M x0 x3 x5 hF
  unfold F_X12_goes_p335 at hF
  refine r_aload_n (pc := 335) 0 dX12_goes_335 rfl rfl ?_
  refine gf_X12_48 (pc := 336) (j := 0) rfl dX12_goes_336 ?_
  refine r_lr (by decide) hF (fun b1 hF => ?_)
  refine r_iconst (pc := 339) (w := 4) dX12_goes_339 (by decide) ?_
  refine r_dup2 (pc := 340) dX12_goes_340 rfl rfl ?_
  refine r_lald (pc := 341) (j := 0) rfl dX12_goes_341 hF (fun hF => ?_)
  refine r_lload (pc := 342) 2 dX12_goes_342 rfl ?_
  refine r_ladd (pc := 344) dX12_goes_344 ?_
  refine r_last (pc := 345) (j := 0) rfl dX12_goes_345 hF (fun M2 hF => ?_)
  refine r_aload_n (pc := 346) 0 dX12_goes_346 rfl rfl ?_
  refine gf_X12_48 (pc := 347) (j := 1) rfl dX12_goes_347 ?_
  refine r_lr (by decide) hF (fun b3 hF => ?_)
  refine r_iconst (pc := 350) (w := 5) dX12_goes_350 (by decide) ?_
  refine r_dup2 (pc := 351) dX12_goes_351 rfl rfl ?_
  refine r_lald (pc := 352) (j := 0) rfl dX12_goes_352 hF (fun hF => ?_)
  refine r_lload_n (pc := 353) 1 dX12_goes_353 rfl rfl ?_
  refine r_ladd (pc := 354) dX12_goes_354 ?_
  refine r_last (pc := 355) (j := 0) rfl dX12_goes_355 hF (fun M4 hF => ?_)
  refine r_aload_n (pc := 356) 0 dX12_goes_356 rfl rfl ?_
  refine gf_X12_48 (pc := 357) (j := 2) rfl dX12_goes_357 ?_
  refine r_lr (by decide) hF (fun b5 hF => ?_)
  refine r_bipush (pc := 360) (w := 6) dX12_goes_360 (by decide) ?_
  refine r_dup2 (pc := 362) dX12_goes_362 rfl rfl ?_
  refine r_lald (pc := 363) (j := 0) rfl dX12_goes_363 hF (fun hF => ?_)
  refine r_lload (pc := 364) 2 dX12_goes_364 rfl ?_
  refine r_lload_n (pc := 366) 1 dX12_goes_366 rfl rfl ?_
  refine r_ladd (pc := 367) dX12_goes_367 ?_
  refine r_aload_n (pc := 368) 0 dX12_goes_368 rfl rfl ?_
  refine gf_X12_72 (pc := 369) (j := 3) rfl dX12_goes_369 ?_
  refine r_lr (by decide) hF (fun b6 hF => ?_)
  refine r_aload_n (pc := 372) 0 dX12_goes_372 rfl rfl ?_
  refine gf_X12_167 (pc := 373) (j := 4) rfl dX12_goes_373 ?_
  refine r_bipush (pc := 376) (w := 24) dX12_goes_376 (by decide) ?_
  refine r_iremc (pc := 378) dX12_goes_378 (by decide) ?_
  refine r_iald (pc := 379) (j := 0) rfl dX12_goes_379 hF (fun hF => ?_)
  refine r_i2l (pc := 380) dX12_goes_380 ?_
  refine r_lmul (pc := 381) dX12_goes_381 ?_
  refine r_ldc2 (pc := 382) (w := 100) tw_1317 dX12_goes_382 ?_
  refine r_ldivc (pc := 385) dX12_goes_385 (by decide) ?_
  refine r_ladd (pc := 386) dX12_goes_386 ?_
  refine r_last (pc := 387) (j := 1) rfl dX12_goes_387 hF (fun M7 hF => ?_)
  refine r_aload_n (pc := 388) 0 dX12_goes_388 rfl rfl ?_
  refine r_callV_V (pc := 389) (Py := P_X12_ground) (n := 0) (As := []) (fun q e => k_X12_ground G _ x0 q e) (c := 13) (Tb := TX12) (N := 58) rfl (by decide) (j0 := 4) rfl tw_1318 tw_1320 tw_38 tw_70 tw_1321 hd_X12_ground ⟨Nat.le_of_ble_eq_true rfl, Nat.le_of_ble_eq_true rfl⟩ rfl [4] rfl rfl (Nat.le_of_ble_eq_true rfl) dX12_goes_389 hF (fun M8 r9 hF => ?_)
  refine r_aload_n (pc := 392) 0 dX12_goes_392 rfl rfl ?_
  refine r_dup (pc := 393) dX12_goes_393 rfl ?_
  refine gf_X12_167 (pc := 394) (j := 4) rfl dX12_goes_394 ?_
  refine r_iconst (pc := 397) (w := 1) dX12_goes_397 (by decide) ?_
  refine r_iadd (pc := 398) dX12_goes_398 ?_
  refine pf_X12_167 (pc := 399) (j := 4) rfl dX12_goes_399 hF (fun M10 hF => ?_)
  exact r_vret (pc := 402) dX12_goes_402 hF
set_option maxHeartbeats 4000000 in
theorem w_X12_goes_p96 {X : Option Cx} {G : EG} {res : Mem × Unit} : ∀ (M : Mem) (x0 : Nat) (x1 : Int64), F_X12_goes_p96 M x0 x1 = some res → T X (RV G res) P_X12_goes M [(x0, 14)] [(0, .ref x0), (1, .long x1)] [] 96 := by
  intro M x0 x1 hF
  unfold F_X12_goes_p96 at hF
  refine r_aload_n (pc := 96) 0 dX12_goes_96 rfl rfl ?_
  refine gf_X12_48 (pc := 97) (j := 0) rfl dX12_goes_97 ?_
  refine r_lr (by decide) hF (fun b1 hF => ?_)
  refine r_iconst (pc := 100) (w := 1) dX12_goes_100 (by decide) ?_
  refine r_dup2 (pc := 101) dX12_goes_101 rfl rfl ?_
  refine r_lald (pc := 102) (j := 0) rfl dX12_goes_102 hF (fun hF => ?_)
  refine r_lload_n (pc := 103) 1 dX12_goes_103 rfl rfl ?_
  refine r_ladd (pc := 104) dX12_goes_104 ?_
  refine r_last (pc := 105) (j := 0) rfl dX12_goes_105 hF (fun M2 hF => ?_)
  refine r_aload_n (pc := 106) 0 dX12_goes_106 rfl rfl ?_
  refine r_aload_n (pc := 107) 0 dX12_goes_107 rfl rfl ?_
  refine gf_X12_167 (pc := 108) (j := 1) rfl dX12_goes_108 ?_
  refine r_callV_J (pc := 111) (Py := P_X12_needOf) (n := 1) (As := [.int (gI M2 1301 x0)]) (fun q e => k_X12_needOf G _ x0 (gI M2 1301 x0) q e) (c := 13) (Tb := TX12) (N := 58) rfl (by decide) (j0 := 1) rfl tw_1282 tw_1284 tw_32 tw_70 tw_1285 hd_X12_needOf ⟨Nat.le_of_ble_eq_true rfl, Nat.le_of_ble_eq_true rfl⟩ rfl [1] rfl rfl (Nat.le_of_ble_eq_true rfl) dX12_goes_111 hF (fun M3 r4 hF => ?_)
  refine r_lstore_n (pc := 114) (L1 := [(3, .long r4), (0, .ref x0), (1, .long x1)]) dX12_goes_114 rfl (by decide) rfl ?_
  refine r_lconst (pc := 115) (w := 0) dX12_goes_115 (by decide) ?_
  refine r_lstore (pc := 116) (L1 := [(5, .long ((0 : Int64))), (3, .long r4), (0, .ref x0), (1, .long x1)]) dX12_goes_116 (by decide) rfl ?_
  refine r_iconst (pc := 118) (w := 0) dX12_goes_118 (by decide) ?_
  refine r_istore (pc := 119) (L1 := [(7, .int ((0 : Int32))), (5, .long ((0 : Int64))), (3, .long r4), (0, .ref x0), (1, .long x1)]) dX12_goes_119 (by decide) rfl ?_
  exact T.sub ((w_X12_goes_p121 (w_X12_goes_p335) FU) M3 x0 r4 (0 : Int64) (0 : Int32) hF) [1] [3, 2, 1, 0] rfl rfl
set_option maxHeartbeats 4000000 in
theorem w_X12_goes {X : Option Cx} {G : EG} {res : Mem × Unit} (M : Mem) (a0 : Nat) (hF : F_X12_goes M a0 = some res) : T X (RV G res) P_X12_goes M [(a0, 14)] [(0, .ref a0)] [] 0 := by
  unfold F_X12_goes at hF
  refine r_aload_n (pc := 0) 0 dX12_goes_0 rfl rfl ?_
  refine r_callV_V (pc := 1) (Py := P_X12_begins) (n := 0) (As := []) (fun q e => k_X12_begins G _ a0 q e) (c := 13) (Tb := TX12) (N := 58) rfl (by decide) (j0 := 0) rfl tw_1274 tw_1276 tw_30 tw_70 tw_1277 hd_X12_begins ⟨Nat.le_of_ble_eq_true rfl, Nat.le_of_ble_eq_true rfl⟩ rfl [0] rfl rfl (Nat.le_of_ble_eq_true rfl) dX12_goes_1 hF (fun M1 r2 hF => ?_)
  refine r_aload_n (pc := 4) 0 dX12_goes_4 rfl rfl ?_
  refine gf_X12_75 (pc := 5) (j := 0) rfl dX12_goes_5 ?_
  refine r_lr (by decide) hF (fun b3 hF => ?_)
  refine r_aload_n (pc := 8) 0 dX12_goes_8 rfl rfl ?_
  refine gf_X12_167 (pc := 9) (j := 1) rfl dX12_goes_9 ?_
  refine r_bipush (pc := 12) (w := 24) dX12_goes_12 (by decide) ?_
  refine r_iremc (pc := 14) dX12_goes_14 (by decide) ?_
  refine r_iald (pc := 15) (j := 0) rfl dX12_goes_15 hF (fun hF => ?_)
  refine r_i2l (pc := 16) dX12_goes_16 ?_
  refine r_gJ (pc := 17) hF (fun v4 hF => ?_)
  refine r_lstore_n (pc := 17) (L1 := [(1, .long v4), (0, .ref a0)]) dX12_goes_17 rfl (by decide) rfl ?_
  refine r_iconst (pc := 18) (w := 0) dX12_goes_18 (by decide) ?_
  refine r_istore_n (pc := 19) (L1 := [(3, .int ((0 : Int32))), (1, .long v4), (0, .ref a0)]) dX12_goes_19 rfl (by decide) rfl ?_
  exact T.sub ((w_X12_goes_p20 (w_X12_goes_p96) FU) M1 a0 v4 (0 : Int32) hF) [1] [2, 1, 0] rfl rfl
theorem k_X12_goes (G : EG) (M : Mem) (a0 : Nat) (q : Mem × Unit) (h : F_X12_goes M a0 = some q) : Kt yX12_goes P_X12_goes M [(a0, 14)] [.ref a0] (RV G q) := Kt.of (by decide +kernel) rfl (Nat.le_of_ble_eq_true rfl) rfl (fun X hz => w_X12_goes M a0 h)
set_option maxHeartbeats 4000000 in
theorem w_X12_in_p18 {X : Option Cx} {G : EG} {res : Mem × Int32} : ∀ (M : Mem) (y0 : Int32), F_X12_in_p18 M y0 = some res → T X (RI G res) P_X12_in M [] [] [.int y0] 18 := by
  intro M y0 hF
  unfold F_X12_in_p18 at hF
  exact r_zret (pc := 18) dX12_in_18 hF
set_option maxHeartbeats 4000000 in
theorem w_X12_in_p17 {X : Option Cx} {G : EG} {res : Mem × Int32} : ∀ (M : Mem), F_X12_in_p17 M = some res → T X (RI G res) P_X12_in M [] [] [] 17 := by
  intro M hF
  unfold F_X12_in_p17 at hF
  refine r_iconst (pc := 17) (w := 0) dX12_in_17 (by decide) ?_
  exact T.sub ((w_X12_in_p18) M (0 : Int32) hF) [] [] rfl rfl
set_option maxHeartbeats 4000000 in
theorem w_X12_in {X : Option Cx} {G : EG} {res : Mem × Int32} (M : Mem) (a0 : Int64) (a1 : Int64) (a2 : Int64) (hF : F_X12_in M a0 a1 a2 = some res) : T X (RI G res) P_X12_in M [] [(0, .long a0), (2, .long a1), (4, .long a2)] [] 0 := by
  unfold F_X12_in at hF
  refine r_lload_n (pc := 0) 0 dX12_in_0 rfl rfl ?_
  refine r_lload_n (pc := 1) 1 dX12_in_1 rfl rfl ?_
  refine r_lcmp (pc := 2) dX12_in_2 ?_
  refine r_if_lt (pc := 3) (tgt := 17) dX12_in_3 rfl hF (fun hF => ?_) (fun hF => ?_)
  · exact T.sub ((w_X12_in_p17) M hF) [] [] rfl rfl
  · refine r_lload_n (pc := 6) 0 dX12_in_6 rfl rfl ?_
    refine r_lload (pc := 7) 2 dX12_in_7 rfl ?_
    refine r_lcmp (pc := 9) dX12_in_9 ?_
    refine r_if_gt (pc := 10) (tgt := 17) dX12_in_10 rfl hF (fun hF => ?_) (fun hF => ?_)
    · exact T.sub ((w_X12_in_p17) M hF) [] [] rfl rfl
    · refine r_iconst (pc := 13) (w := 1) dX12_in_13 (by decide) ?_
      refine r_goto (pc := 14) (tgt := 18) dX12_in_14 rfl ?_
      exact T.sub ((w_X12_in_p18) M (1 : Int32) hF) [] [] rfl rfl
theorem k_X12_in (G : EG) (M : Mem) (a0 : Int64) (a1 : Int64) (a2 : Int64) (q : Mem × Int32) (h : F_X12_in M a0 a1 a2 = some q) : Kt yX12_in P_X12_in M [] [.long a0, .long a1, .long a2] (RI G q) := Kt.of (by decide +kernel) rfl (Nat.le_of_ble_eq_true rfl) rfl (fun X hz => w_X12_in M a0 a1 a2 h)
set_option maxHeartbeats 4000000 in
theorem w_X12_keeps_p10 {X : Option Cx} {G : EG} {res : Mem × Unit} {k34 : Mem → Nat → Option (Mem × Unit)} (hk34 : ∀ (M : Mem) (x0 : Nat), k34 M x0 = some res → T X (RV G res) P_X12_keeps M [(x0, 14)] [(0, .ref x0)] [] 34) : ∀ (n : Nat) (M : Mem) (x0 : Nat) (x1 : Int32), F_X12_keeps_p10 k34 n M x0 x1 = some res → T X (RV G res) P_X12_keeps M [(x0, 14)] [(0, .ref x0), (1, .int x1)] [] 10 := by
  intro n
  induction n with
  | zero =>
    intro M x0 x1 hF
    cases hF
  | succ n ih =>
    intro M x0 x1 hF
    unfold F_X12_keeps_p10 at hF
    refine r_iload_n (pc := 10) 1 dX12_keeps_10 rfl rfl ?_
    refine r_bipush (pc := 11) (w := 64) dX12_keeps_11 (by decide) ?_
    refine r_icmp_ge (pc := 13) (tgt := 34) dX12_keeps_13 rfl hF (fun hF => ?_) (fun hF => ?_)
    · exact T.sub (hk34 M x0 hF) [0] [0] rfl rfl
    · refine r_aload_n (pc := 16) 0 dX12_keeps_16 rfl rfl ?_
      refine gf_X12_130 (pc := 17) (j := 0) rfl dX12_keeps_17 ?_
      refine r_lr (by decide) hF (fun b1 hF => ?_)
      refine r_iload_n (pc := 20) 1 dX12_keeps_20 rfl rfl ?_
      refine r_aload_n (pc := 21) 0 dX12_keeps_21 rfl rfl ?_
      refine gf_X12_41 (pc := 22) (j := 1) rfl dX12_keeps_22 ?_
      refine r_lr (by decide) hF (fun b2 hF => ?_)
      refine r_iload_n (pc := 25) 1 dX12_keeps_25 rfl rfl ?_
      refine r_lald (pc := 26) (j := 0) rfl dX12_keeps_26 hF (fun hF => ?_)
      refine r_last (pc := 27) (j := 1) rfl dX12_keeps_27 hF (fun M3 hF => ?_)
      obtain ⟨v4, e9, hF⟩ := bnd_e hF
      refine r_iinc (pc := 28) (w := v4) (k := 1) (L1 := [(1, .int v4), (0, .ref x0)]) dX12_keeps_28 rfl (by rw [e9]; rfl) (by decide) rfl ?_
      clear e9
      refine r_goto (pc := 31) (tgt := 10) dX12_keeps_31 rfl ?_
      exact T.sub (ih M3 x0 v4 hF) [2] [1, 0] rfl rfl
set_option maxHeartbeats 4000000 in
theorem w_X12_keeps_p36 {X : Option Cx} {G : EG} {res : Mem × Unit} {k60 : Mem → Nat → Option (Mem × Unit)} (hk60 : ∀ (M : Mem) (x0 : Nat), k60 M x0 = some res → T X (RV G res) P_X12_keeps M [(x0, 14)] [(0, .ref x0)] [] 60) : ∀ (n : Nat) (M : Mem) (x0 : Nat) (x1 : Int32), F_X12_keeps_p36 k60 n M x0 x1 = some res → T X (RV G res) P_X12_keeps M [(x0, 14)] [(0, .ref x0), (1, .int x1)] [] 36 := by
  intro n
  induction n with
  | zero =>
    intro M x0 x1 hF
    cases hF
  | succ n ih =>
    intro M x0 x1 hF
    unfold F_X12_keeps_p36 at hF
    refine r_iload_n (pc := 36) 1 dX12_keeps_36 rfl rfl ?_
    refine r_bipush (pc := 37) (w := 9) dX12_keeps_37 (by decide) ?_
    refine r_icmp_ge (pc := 39) (tgt := 60) dX12_keeps_39 rfl hF (fun hF => ?_) (fun hF => ?_)
    · exact T.sub (hk60 M x0 hF) [0] [0] rfl rfl
    · refine r_aload_n (pc := 42) 0 dX12_keeps_42 rfl rfl ?_
      refine gf_X12_136 (pc := 43) (j := 0) rfl dX12_keeps_43 ?_
      refine r_lr (by decide) hF (fun b1 hF => ?_)
      refine r_iload_n (pc := 46) 1 dX12_keeps_46 rfl rfl ?_
      refine r_aload_n (pc := 47) 0 dX12_keeps_47 rfl rfl ?_
      refine gf_X12_48 (pc := 48) (j := 1) rfl dX12_keeps_48 ?_
      refine r_lr (by decide) hF (fun b2 hF => ?_)
      refine r_iload_n (pc := 51) 1 dX12_keeps_51 rfl rfl ?_
      refine r_lald (pc := 52) (j := 0) rfl dX12_keeps_52 hF (fun hF => ?_)
      refine r_last (pc := 53) (j := 1) rfl dX12_keeps_53 hF (fun M3 hF => ?_)
      obtain ⟨v4, e9, hF⟩ := bnd_e hF
      refine r_iinc (pc := 54) (w := v4) (k := 1) (L1 := [(1, .int v4), (0, .ref x0)]) dX12_keeps_54 rfl (by rw [e9]; rfl) (by decide) rfl ?_
      clear e9
      refine r_goto (pc := 57) (tgt := 36) dX12_keeps_57 rfl ?_
      exact T.sub (ih M3 x0 v4 hF) [2] [1, 0] rfl rfl
set_option maxHeartbeats 4000000 in
theorem w_X12_keeps_p62 {X : Option Cx} {G : EG} {res : Mem × Unit} {k98 : Mem → Option (Mem × Unit)} (hk98 : ∀ (M : Mem), k98 M = some res → T X (RV G res) P_X12_keeps M [] [] [] 98) : ∀ (n : Nat) (M : Mem) (x0 : Nat) (x1 : Int32), F_X12_keeps_p62 k98 n M x0 x1 = some res → T X (RV G res) P_X12_keeps M [(x0, 14)] [(0, .ref x0), (1, .int x1)] [] 62 := by
  intro n
  induction n with
  | zero =>
    intro M x0 x1 hF
    cases hF
  | succ n ih =>
    intro M x0 x1 hF
    unfold F_X12_keeps_p62 at hF
    refine r_iload_n (pc := 62) 1 dX12_keeps_62 rfl rfl ?_
    refine r_bipush (pc := 63) (w := 8) dX12_keeps_63 (by decide) ?_
    refine r_icmp_ge (pc := 65) (tgt := 98) dX12_keeps_65 rfl hF (fun hF => ?_) (fun hF => ?_)
    · exact T.sub (hk98 M hF) [] [] rfl rfl
    · refine r_aload_n (pc := 68) 0 dX12_keeps_68 rfl rfl ?_
      refine gf_X12_133 (pc := 69) (j := 0) rfl dX12_keeps_69 ?_
      refine r_lr (by decide) hF (fun b1 hF => ?_)
      refine r_iload_n (pc := 72) 1 dX12_keeps_72 rfl rfl ?_
      refine r_aload_n (pc := 73) 0 dX12_keeps_73 rfl rfl ?_
      refine gf_X12_45 (pc := 74) (j := 1) rfl dX12_keeps_74 ?_
      refine r_lr (by decide) hF (fun b2 hF => ?_)
      refine r_iload_n (pc := 77) 1 dX12_keeps_77 rfl rfl ?_
      refine r_lald (pc := 78) (j := 0) rfl dX12_keeps_78 hF (fun hF => ?_)
      refine r_last (pc := 79) (j := 1) rfl dX12_keeps_79 hF (fun M3 hF => ?_)
      refine r_aload_n (pc := 80) 0 dX12_keeps_80 rfl rfl ?_
      refine gf_X12_139 (pc := 81) (j := 2) rfl dX12_keeps_81 ?_
      refine r_lr (by decide) hF (fun b4 hF => ?_)
      refine r_iload_n (pc := 84) 1 dX12_keeps_84 rfl rfl ?_
      refine r_aload_n (pc := 85) 0 dX12_keeps_85 rfl rfl ?_
      refine gf_X12_37 (pc := 86) (j := 3) rfl dX12_keeps_86 ?_
      refine r_lr (by decide) hF (fun b5 hF => ?_)
      refine r_iload_n (pc := 89) 1 dX12_keeps_89 rfl rfl ?_
      refine r_zald (pc := 90) (j := 0) rfl dX12_keeps_90 hF (fun hF => ?_)
      refine r_zast (pc := 91) (j := 1) rfl dX12_keeps_91 hF (fun M6 hF => ?_)
      obtain ⟨v7, e9, hF⟩ := bnd_e hF
      refine r_iinc (pc := 92) (w := v7) (k := 1) (L1 := [(1, .int v7), (0, .ref x0)]) dX12_keeps_92 rfl (by rw [e9]; rfl) (by decide) rfl ?_
      clear e9
      refine r_goto (pc := 95) (tgt := 62) dX12_keeps_95 rfl ?_
      exact T.sub (ih M6 x0 v7 hF) [4] [1, 0] rfl rfl
set_option maxHeartbeats 4000000 in
theorem w_X12_keeps_p98 {X : Option Cx} {G : EG} {res : Mem × Unit} : ∀ (M : Mem), F_X12_keeps_p98 M = some res → T X (RV G res) P_X12_keeps M [] [] [] 98 := by
  intro M hF
  unfold F_X12_keeps_p98 at hF
  exact r_vret (pc := 98) dX12_keeps_98 hF
set_option maxHeartbeats 4000000 in
theorem w_X12_keeps_p60 {X : Option Cx} {G : EG} {res : Mem × Unit} : ∀ (M : Mem) (x0 : Nat), F_X12_keeps_p60 M x0 = some res → T X (RV G res) P_X12_keeps M [(x0, 14)] [(0, .ref x0)] [] 60 := by
  intro M x0 hF
  unfold F_X12_keeps_p60 at hF
  refine r_iconst (pc := 60) (w := 0) dX12_keeps_60 (by decide) ?_
  refine r_istore_n (pc := 61) (L1 := [(1, .int ((0 : Int32))), (0, .ref x0)]) dX12_keeps_61 rfl (by decide) rfl ?_
  exact T.sub ((w_X12_keeps_p62 (w_X12_keeps_p98) FU) M x0 (0 : Int32) hF) [0] [1, 0] rfl rfl
set_option maxHeartbeats 4000000 in
theorem w_X12_keeps_p34 {X : Option Cx} {G : EG} {res : Mem × Unit} : ∀ (M : Mem) (x0 : Nat), F_X12_keeps_p34 M x0 = some res → T X (RV G res) P_X12_keeps M [(x0, 14)] [(0, .ref x0)] [] 34 := by
  intro M x0 hF
  unfold F_X12_keeps_p34 at hF
  refine r_iconst (pc := 34) (w := 0) dX12_keeps_34 (by decide) ?_
  refine r_istore_n (pc := 35) (L1 := [(1, .int ((0 : Int32))), (0, .ref x0)]) dX12_keeps_35 rfl (by decide) rfl ?_
  exact T.sub ((w_X12_keeps_p36 (w_X12_keeps_p60) FU) M x0 (0 : Int32) hF) [0] [1, 0] rfl rfl
set_option maxHeartbeats 4000000 in
theorem w_X12_keeps {X : Option Cx} {G : EG} {res : Mem × Unit} (M : Mem) (a0 : Nat) (hF : F_X12_keeps M a0 = some res) : T X (RV G res) P_X12_keeps M [(a0, 14)] [(0, .ref a0)] [] 0 := by
  unfold F_X12_keeps at hF
  refine r_aload_n (pc := 0) 0 dX12_keeps_0 rfl rfl ?_
  refine r_aload_n (pc := 1) 0 dX12_keeps_1 rfl rfl ?_
  refine gf_X12_167 (pc := 2) (j := 0) rfl dX12_keeps_2 ?_
  refine pf_X12_301 (pc := 5) (j := 0) rfl dX12_keeps_5 hF (fun M1 hF => ?_)
  refine r_iconst (pc := 8) (w := 0) dX12_keeps_8 (by decide) ?_
  refine r_istore_n (pc := 9) (L1 := [(1, .int ((0 : Int32))), (0, .ref a0)]) dX12_keeps_9 rfl (by decide) rfl ?_
  exact T.sub ((w_X12_keeps_p10 (w_X12_keeps_p34) FU) M1 a0 (0 : Int32) hF) [0] [1, 0] rfl rfl
theorem k_X12_keeps (G : EG) (M : Mem) (a0 : Nat) (q : Mem × Unit) (h : F_X12_keeps M a0 = some q) : Kt yX12_keeps P_X12_keeps M [(a0, 14)] [.ref a0] (RV G q) := Kt.of (by decide +kernel) rfl (Nat.le_of_ble_eq_true rfl) rfl (fun X hz => w_X12_keeps M a0 h)
set_option maxHeartbeats 4000000 in
theorem w_X12_laysBack_p10 {X : Option Cx} {G : EG} {res : Mem × Unit} {k34 : Mem → Nat → Option (Mem × Unit)} (hk34 : ∀ (M : Mem) (x0 : Nat), k34 M x0 = some res → T X (RV G res) P_X12_laysBack M [(x0, 14)] [(0, .ref x0)] [] 34) : ∀ (n : Nat) (M : Mem) (x0 : Nat) (x1 : Int32), F_X12_laysBack_p10 k34 n M x0 x1 = some res → T X (RV G res) P_X12_laysBack M [(x0, 14)] [(0, .ref x0), (1, .int x1)] [] 10 := by
  intro n
  induction n with
  | zero =>
    intro M x0 x1 hF
    cases hF
  | succ n ih =>
    intro M x0 x1 hF
    unfold F_X12_laysBack_p10 at hF
    refine r_iload_n (pc := 10) 1 dX12_laysBack_10 rfl rfl ?_
    refine r_bipush (pc := 11) (w := 64) dX12_laysBack_11 (by decide) ?_
    refine r_icmp_ge (pc := 13) (tgt := 34) dX12_laysBack_13 rfl hF (fun hF => ?_) (fun hF => ?_)
    · exact T.sub (hk34 M x0 hF) [0] [0] rfl rfl
    · refine r_aload_n (pc := 16) 0 dX12_laysBack_16 rfl rfl ?_
      refine gf_X12_41 (pc := 17) (j := 0) rfl dX12_laysBack_17 ?_
      refine r_lr (by decide) hF (fun b1 hF => ?_)
      refine r_iload_n (pc := 20) 1 dX12_laysBack_20 rfl rfl ?_
      refine r_aload_n (pc := 21) 0 dX12_laysBack_21 rfl rfl ?_
      refine gf_X12_130 (pc := 22) (j := 1) rfl dX12_laysBack_22 ?_
      refine r_lr (by decide) hF (fun b2 hF => ?_)
      refine r_iload_n (pc := 25) 1 dX12_laysBack_25 rfl rfl ?_
      refine r_lald (pc := 26) (j := 0) rfl dX12_laysBack_26 hF (fun hF => ?_)
      refine r_last (pc := 27) (j := 1) rfl dX12_laysBack_27 hF (fun M3 hF => ?_)
      obtain ⟨v4, e9, hF⟩ := bnd_e hF
      refine r_iinc (pc := 28) (w := v4) (k := 1) (L1 := [(1, .int v4), (0, .ref x0)]) dX12_laysBack_28 rfl (by rw [e9]; rfl) (by decide) rfl ?_
      clear e9
      refine r_goto (pc := 31) (tgt := 10) dX12_laysBack_31 rfl ?_
      exact T.sub (ih M3 x0 v4 hF) [2] [1, 0] rfl rfl
set_option maxHeartbeats 4000000 in
theorem w_X12_laysBack_p36 {X : Option Cx} {G : EG} {res : Mem × Unit} {k60 : Mem → Nat → Option (Mem × Unit)} (hk60 : ∀ (M : Mem) (x0 : Nat), k60 M x0 = some res → T X (RV G res) P_X12_laysBack M [(x0, 14)] [(0, .ref x0)] [] 60) : ∀ (n : Nat) (M : Mem) (x0 : Nat) (x1 : Int32), F_X12_laysBack_p36 k60 n M x0 x1 = some res → T X (RV G res) P_X12_laysBack M [(x0, 14)] [(0, .ref x0), (1, .int x1)] [] 36 := by
  intro n
  induction n with
  | zero =>
    intro M x0 x1 hF
    cases hF
  | succ n ih =>
    intro M x0 x1 hF
    unfold F_X12_laysBack_p36 at hF
    refine r_iload_n (pc := 36) 1 dX12_laysBack_36 rfl rfl ?_
    refine r_bipush (pc := 37) (w := 9) dX12_laysBack_37 (by decide) ?_
    refine r_icmp_ge (pc := 39) (tgt := 60) dX12_laysBack_39 rfl hF (fun hF => ?_) (fun hF => ?_)
    · exact T.sub (hk60 M x0 hF) [0] [0] rfl rfl
    · refine r_aload_n (pc := 42) 0 dX12_laysBack_42 rfl rfl ?_
      refine gf_X12_48 (pc := 43) (j := 0) rfl dX12_laysBack_43 ?_
      refine r_lr (by decide) hF (fun b1 hF => ?_)
      refine r_iload_n (pc := 46) 1 dX12_laysBack_46 rfl rfl ?_
      refine r_aload_n (pc := 47) 0 dX12_laysBack_47 rfl rfl ?_
      refine gf_X12_136 (pc := 48) (j := 1) rfl dX12_laysBack_48 ?_
      refine r_lr (by decide) hF (fun b2 hF => ?_)
      refine r_iload_n (pc := 51) 1 dX12_laysBack_51 rfl rfl ?_
      refine r_lald (pc := 52) (j := 0) rfl dX12_laysBack_52 hF (fun hF => ?_)
      refine r_last (pc := 53) (j := 1) rfl dX12_laysBack_53 hF (fun M3 hF => ?_)
      obtain ⟨v4, e9, hF⟩ := bnd_e hF
      refine r_iinc (pc := 54) (w := v4) (k := 1) (L1 := [(1, .int v4), (0, .ref x0)]) dX12_laysBack_54 rfl (by rw [e9]; rfl) (by decide) rfl ?_
      clear e9
      refine r_goto (pc := 57) (tgt := 36) dX12_laysBack_57 rfl ?_
      exact T.sub (ih M3 x0 v4 hF) [2] [1, 0] rfl rfl
set_option maxHeartbeats 4000000 in
theorem w_X12_laysBack_p62 {X : Option Cx} {G : EG} {res : Mem × Unit} {k98 : Mem → Option (Mem × Unit)} (hk98 : ∀ (M : Mem), k98 M = some res → T X (RV G res) P_X12_laysBack M [] [] [] 98) : ∀ (n : Nat) (M : Mem) (x0 : Nat) (x1 : Int32), F_X12_laysBack_p62 k98 n M x0 x1 = some res → T X (RV G res) P_X12_laysBack M [(x0, 14)] [(0, .ref x0), (1, .int x1)] [] 62 := by
  intro n
  induction n with
  | zero =>
    intro M x0 x1 hF
    cases hF
  | succ n ih =>
    intro M x0 x1 hF
    unfold F_X12_laysBack_p62 at hF
    refine r_iload_n (pc := 62) 1 dX12_laysBack_62 rfl rfl ?_
    refine r_bipush (pc := 63) (w := 8) dX12_laysBack_63 (by decide) ?_
    refine r_icmp_ge (pc := 65) (tgt := 98) dX12_laysBack_65 rfl hF (fun hF => ?_) (fun hF => ?_)
    · exact T.sub (hk98 M hF) [] [] rfl rfl
    · refine r_aload_n (pc := 68) 0 dX12_laysBack_68 rfl rfl ?_
      refine gf_X12_45 (pc := 69) (j := 0) rfl dX12_laysBack_69 ?_
      refine r_lr (by decide) hF (fun b1 hF => ?_)
      refine r_iload_n (pc := 72) 1 dX12_laysBack_72 rfl rfl ?_
      refine r_aload_n (pc := 73) 0 dX12_laysBack_73 rfl rfl ?_
      refine gf_X12_133 (pc := 74) (j := 1) rfl dX12_laysBack_74 ?_
      refine r_lr (by decide) hF (fun b2 hF => ?_)
      refine r_iload_n (pc := 77) 1 dX12_laysBack_77 rfl rfl ?_
      refine r_lald (pc := 78) (j := 0) rfl dX12_laysBack_78 hF (fun hF => ?_)
      refine r_last (pc := 79) (j := 1) rfl dX12_laysBack_79 hF (fun M3 hF => ?_)
      refine r_aload_n (pc := 80) 0 dX12_laysBack_80 rfl rfl ?_
      refine gf_X12_37 (pc := 81) (j := 2) rfl dX12_laysBack_81 ?_
      refine r_lr (by decide) hF (fun b4 hF => ?_)
      refine r_iload_n (pc := 84) 1 dX12_laysBack_84 rfl rfl ?_
      refine r_aload_n (pc := 85) 0 dX12_laysBack_85 rfl rfl ?_
      refine gf_X12_139 (pc := 86) (j := 3) rfl dX12_laysBack_86 ?_
      refine r_lr (by decide) hF (fun b5 hF => ?_)
      refine r_iload_n (pc := 89) 1 dX12_laysBack_89 rfl rfl ?_
      refine r_zald (pc := 90) (j := 0) rfl dX12_laysBack_90 hF (fun hF => ?_)
      refine r_zast (pc := 91) (j := 1) rfl dX12_laysBack_91 hF (fun M6 hF => ?_)
      obtain ⟨v7, e9, hF⟩ := bnd_e hF
      refine r_iinc (pc := 92) (w := v7) (k := 1) (L1 := [(1, .int v7), (0, .ref x0)]) dX12_laysBack_92 rfl (by rw [e9]; rfl) (by decide) rfl ?_
      clear e9
      refine r_goto (pc := 95) (tgt := 62) dX12_laysBack_95 rfl ?_
      exact T.sub (ih M6 x0 v7 hF) [4] [1, 0] rfl rfl
set_option maxHeartbeats 4000000 in
theorem w_X12_laysBack_p98 {X : Option Cx} {G : EG} {res : Mem × Unit} : ∀ (M : Mem), F_X12_laysBack_p98 M = some res → T X (RV G res) P_X12_laysBack M [] [] [] 98 := by
  intro M hF
  unfold F_X12_laysBack_p98 at hF
  exact r_vret (pc := 98) dX12_laysBack_98 hF
set_option maxHeartbeats 4000000 in
theorem w_X12_laysBack_p60 {X : Option Cx} {G : EG} {res : Mem × Unit} : ∀ (M : Mem) (x0 : Nat), F_X12_laysBack_p60 M x0 = some res → T X (RV G res) P_X12_laysBack M [(x0, 14)] [(0, .ref x0)] [] 60 := by
  intro M x0 hF
  unfold F_X12_laysBack_p60 at hF
  refine r_iconst (pc := 60) (w := 0) dX12_laysBack_60 (by decide) ?_
  refine r_istore_n (pc := 61) (L1 := [(1, .int ((0 : Int32))), (0, .ref x0)]) dX12_laysBack_61 rfl (by decide) rfl ?_
  exact T.sub ((w_X12_laysBack_p62 (w_X12_laysBack_p98) FU) M x0 (0 : Int32) hF) [0] [1, 0] rfl rfl
set_option maxHeartbeats 4000000 in
theorem w_X12_laysBack_p34 {X : Option Cx} {G : EG} {res : Mem × Unit} : ∀ (M : Mem) (x0 : Nat), F_X12_laysBack_p34 M x0 = some res → T X (RV G res) P_X12_laysBack M [(x0, 14)] [(0, .ref x0)] [] 34 := by
  intro M x0 hF
  unfold F_X12_laysBack_p34 at hF
  refine r_iconst (pc := 34) (w := 0) dX12_laysBack_34 (by decide) ?_
  refine r_istore_n (pc := 35) (L1 := [(1, .int ((0 : Int32))), (0, .ref x0)]) dX12_laysBack_35 rfl (by decide) rfl ?_
  exact T.sub ((w_X12_laysBack_p36 (w_X12_laysBack_p60) FU) M x0 (0 : Int32) hF) [0] [1, 0] rfl rfl
set_option maxHeartbeats 4000000 in
theorem w_X12_laysBack {X : Option Cx} {G : EG} {res : Mem × Unit} (M : Mem) (a0 : Nat) (hF : F_X12_laysBack M a0 = some res) : T X (RV G res) P_X12_laysBack M [(a0, 14)] [(0, .ref a0)] [] 0 := by
  unfold F_X12_laysBack at hF
  refine r_aload_n (pc := 0) 0 dX12_laysBack_0 rfl rfl ?_
  refine r_aload_n (pc := 1) 0 dX12_laysBack_1 rfl rfl ?_
  refine gf_X12_301 (pc := 2) (j := 0) rfl dX12_laysBack_2 ?_
  refine pf_X12_167 (pc := 5) (j := 0) rfl dX12_laysBack_5 hF (fun M1 hF => ?_)
  refine r_iconst (pc := 8) (w := 0) dX12_laysBack_8 (by decide) ?_
  refine r_istore_n (pc := 9) (L1 := [(1, .int ((0 : Int32))), (0, .ref a0)]) dX12_laysBack_9 rfl (by decide) rfl ?_
  exact T.sub ((w_X12_laysBack_p10 (w_X12_laysBack_p34) FU) M1 a0 (0 : Int32) hF) [0] [1, 0] rfl rfl
theorem k_X12_laysBack (G : EG) (M : Mem) (a0 : Nat) (q : Mem × Unit) (h : F_X12_laysBack M a0 = some q) : Kt yX12_laysBack P_X12_laysBack M [(a0, 14)] [.ref a0] (RV G q) := Kt.of (by decide +kernel) rfl (Nat.le_of_ble_eq_true rfl) rfl (fun X hz => w_X12_laysBack M a0 h)
