set_option maxHeartbeats 4000000 in
theorem w_X6_step_p159 {X : Option Cx} {G : EG} {res : Mem × Int64} : ∀ (M : Mem) (y0 : Int64), F_X6_step_p159 M y0 = some res → T X (RJ G res) P_X6_step M [] [] [.long y0] 159 := by
  intro M y0 hF
  unfold F_X6_step_p159 at hF
  exact r_lret (pc := 159) dX6_step_159 hF
set_option maxHeartbeats 4000000 in
theorem w_X6_step_p127 {X : Option Cx} {G : EG} {res : Mem × Int64} : ∀ (M : Mem) (x5 : Int64), F_X6_step_p127 M x5 = some res → T X (RJ G res) P_X6_step M [] [(5, .long x5)] [] 127 := by
  intro M x5 hF
  unfold F_X6_step_p127 at hF
  refine r_lload (pc := 127) 0 dX6_step_127 rfl ?_
  refine r_ldc2 (pc := 129) (w := -1000000000) tw_426 dX6_step_129 ?_
  refine r_lcmp (pc := 132) dX6_step_132 ?_
  refine r_if_ge (pc := 133) (tgt := 142) dX6_step_133 rfl hF (fun hF => ?_) (fun hF => ?_)
  · refine r_lload (pc := 142) 0 dX6_step_142 rfl ?_
    refine r_ldc2 (pc := 144) (w := 1000000000) tw_427 dX6_step_144 ?_
    refine r_lcmp (pc := 147) dX6_step_147 ?_
    refine r_if_le (pc := 148) (tgt := 157) dX6_step_148 rfl hF (fun hF => ?_) (fun hF => ?_)
    · refine r_lload (pc := 157) 0 dX6_step_157 rfl ?_
      exact T.sub ((w_X6_step_p159) M x5 hF) [] [] rfl rfl
    · refine r_ldc2 (pc := 151) (w := 1000000000) tw_427 dX6_step_151 ?_
      refine r_goto (pc := 154) (tgt := 159) dX6_step_154 rfl ?_
      exact T.sub ((w_X6_step_p159) M (1000000000 : Int64) hF) [] [] rfl rfl
  · refine r_ldc2 (pc := 136) (w := -1000000000) tw_426 dX6_step_136 ?_
    refine r_goto (pc := 139) (tgt := 159) dX6_step_139 rfl ?_
    exact T.sub ((w_X6_step_p159) M (-1000000000 : Int64) hF) [] [] rfl rfl
set_option maxHeartbeats 4000000 in
theorem w_X6_step_p77 {X : Option Cx} {G : EG} {res : Mem × Int64} : ∀ (M : Mem) (y0 : Int64), F_X6_step_p77 M y0 = some res → T X (RJ G res) P_X6_step M [] [] [.long y0] 77 := by
  intro M y0 hF
  unfold F_X6_step_p77 at hF
  refine r_lstore (pc := 77) (L1 := [(5, .long y0)]) dX6_step_77 (by decide) rfl ?_
  refine r_goto (pc := 79) (tgt := 127) dX6_step_79 rfl ?_
  exact T.sub ((w_X6_step_p127) M y0 hF) [] [0] rfl rfl
set_option maxHeartbeats 4000000 in
theorem w_X6_step_p93 {X : Option Cx} {G : EG} {res : Mem × Int64} : ∀ (M : Mem) (y0 : Int64), F_X6_step_p93 M y0 = some res → T X (RJ G res) P_X6_step M [] [] [.long y0] 93 := by
  intro M y0 hF
  unfold F_X6_step_p93 at hF
  refine r_lstore (pc := 93) (L1 := [(5, .long y0)]) dX6_step_93 (by decide) rfl ?_
  refine r_goto (pc := 95) (tgt := 127) dX6_step_95 rfl ?_
  exact T.sub ((w_X6_step_p127) M y0 hF) [] [0] rfl rfl
set_option maxHeartbeats 4000000 in
theorem w_X6_step_p109 {X : Option Cx} {G : EG} {res : Mem × Int64} : ∀ (M : Mem) (y0 : Int64), F_X6_step_p109 M y0 = some res → T X (RJ G res) P_X6_step M [] [] [.long y0] 109 := by
  intro M y0 hF
  unfold F_X6_step_p109 at hF
  refine r_lstore (pc := 109) (L1 := [(5, .long y0)]) dX6_step_109 (by decide) rfl ?_
  refine r_goto (pc := 111) (tgt := 127) dX6_step_111 rfl ?_
  exact T.sub ((w_X6_step_p127) M y0 hF) [] [0] rfl rfl
set_option maxHeartbeats 4000000 in
theorem w_X6_step_p125 {X : Option Cx} {G : EG} {res : Mem × Int64} : ∀ (M : Mem) (y0 : Int64), F_X6_step_p125 M y0 = some res → T X (RJ G res) P_X6_step M [] [] [.long y0] 125 := by
  intro M y0 hF
  unfold F_X6_step_p125 at hF
  refine r_lstore (pc := 125) (L1 := [(5, .long y0)]) dX6_step_125 (by decide) rfl ?_
  exact T.sub ((w_X6_step_p127) M y0 hF) [] [0] rfl rfl
set_option maxHeartbeats 4000000 in
theorem w_X6_step {X : Option Cx} {G : EG} {res : Mem × Int64} (M : Mem) (a0 : Int32) (a1 : Int64) (a2 : Int64) (hF : F_X6_step M a0 a1 a2 = some res) : T X (RJ G res) P_X6_step M [] [(0, .int a0), (1, .long a1), (3, .long a2)] [] 0 := by
  unfold F_X6_step at hF
  refine r_iload_n (pc := 0) 0 dX6_step_0 rfl rfl ?_
  rcases swi_e (hi := 5) (n := 6) rfl rfl hF with ⟨h9, hF⟩ | ⟨h7, h8, k9, b9, hk9, e9, hb9, hF⟩
  · refine r_tabOut (pc := 1) (tgt := 114) dX6_step_1 h9 rfl ?_
    refine r_lload_n (pc := 114) 1 dX6_step_114 rfl rfl ?_
    refine r_lload_n (pc := 115) 2 dX6_step_115 rfl rfl ?_
    refine r_lcmp (pc := 116) dX6_step_116 ?_
    refine r_if_le (pc := 117) (tgt := 124) dX6_step_117 rfl hF (fun hF => ?_) (fun hF => ?_)
    · refine r_lconst (pc := 124) (w := 0) dX6_step_124 (by decide) ?_
      exact T.sub ((w_X6_step_p125) M (0 : Int64) hF) [] [] rfl rfl
    · refine r_lconst (pc := 120) (w := 1) dX6_step_120 (by decide) ?_
      refine r_goto (pc := 121) (tgt := 125) dX6_step_121 rfl ?_
      exact T.sub ((w_X6_step_p125) M (1 : Int64) hF) [] [] rfl rfl
  · rcases (show k9 = 0 ∨ k9 = 1 ∨ k9 = 2 ∨ k9 = 3 ∨ k9 = 4 ∨ k9 = 5 by omega) with rfl | rfl | rfl | rfl | rfl | rfl
    · cases hb9
      refine r_tabIn (pc := 1) (tgt := 40) dX6_step_1 h7 h8 (by rw [e9]; rfl) rfl ?_
      refine r_lload_n (pc := 40) 1 dX6_step_40 rfl rfl ?_
      refine r_lload_n (pc := 41) 2 dX6_step_41 rfl rfl ?_
      refine r_ladd (pc := 42) dX6_step_42 ?_
      refine r_gJ (pc := 43) hF (fun v1 hF => ?_)
      refine r_lstore (pc := 43) (L1 := [(5, .long v1), (0, .int a0), (1, .long a1), (3, .long a2)]) dX6_step_43 (by decide) rfl ?_
      refine r_goto (pc := 45) (tgt := 127) dX6_step_45 rfl ?_
      exact T.sub ((w_X6_step_p127) M v1 hF) [] [0] rfl rfl
    · cases hb9
      refine r_tabIn (pc := 1) (tgt := 48) dX6_step_1 h7 h8 (by rw [e9]; rfl) rfl ?_
      refine r_lload_n (pc := 48) 1 dX6_step_48 rfl rfl ?_
      refine r_lload_n (pc := 49) 2 dX6_step_49 rfl rfl ?_
      refine r_lsub (pc := 50) dX6_step_50 ?_
      refine r_gJ (pc := 51) hF (fun v2 hF => ?_)
      refine r_lstore (pc := 51) (L1 := [(5, .long v2), (0, .int a0), (1, .long a1), (3, .long a2)]) dX6_step_51 (by decide) rfl ?_
      refine r_goto (pc := 53) (tgt := 127) dX6_step_53 rfl ?_
      exact T.sub ((w_X6_step_p127) M v2 hF) [] [0] rfl rfl
    · cases hb9
      refine r_tabIn (pc := 1) (tgt := 56) dX6_step_1 h7 h8 (by rw [e9]; rfl) rfl ?_
      refine r_lload_n (pc := 56) 1 dX6_step_56 rfl rfl ?_
      refine r_lload_n (pc := 57) 2 dX6_step_57 rfl rfl ?_
      refine r_lmul (pc := 58) dX6_step_58 ?_
      refine r_gJ (pc := 59) hF (fun v3 hF => ?_)
      refine r_lstore (pc := 59) (L1 := [(5, .long v3), (0, .int a0), (1, .long a1), (3, .long a2)]) dX6_step_59 (by decide) rfl ?_
      refine r_goto (pc := 61) (tgt := 127) dX6_step_61 rfl ?_
      exact T.sub ((w_X6_step_p127) M v3 hF) [] [0] rfl rfl
    · cases hb9
      refine r_tabIn (pc := 1) (tgt := 64) dX6_step_1 h7 h8 (by rw [e9]; rfl) rfl ?_
      refine r_lload_n (pc := 64) 2 dX6_step_64 rfl rfl ?_
      refine r_lconst (pc := 65) (w := 0) dX6_step_65 (by decide) ?_
      refine r_lcmp (pc := 66) dX6_step_66 ?_
      refine r_if_ne (pc := 67) (tgt := 74) dX6_step_67 rfl hF (fun hF => ?_) (fun hF => ?_)
      · refine r_lload_n (pc := 74) 1 dX6_step_74 rfl rfl ?_
        refine r_lload_n (pc := 75) 2 dX6_step_75 rfl rfl ?_
        refine r_ldiv (pc := 76) dX6_step_76 hF (fun hF => ?_)
        exact T.sub ((w_X6_step_p77) M (a1 / a2) hF) [] [] rfl rfl
      · refine r_lconst (pc := 70) (w := 0) dX6_step_70 (by decide) ?_
        refine r_goto (pc := 71) (tgt := 77) dX6_step_71 rfl ?_
        exact T.sub ((w_X6_step_p77) M (0 : Int64) hF) [] [] rfl rfl
    · cases hb9
      refine r_tabIn (pc := 1) (tgt := 82) dX6_step_1 h7 h8 (by rw [e9]; rfl) rfl ?_
      refine r_lload_n (pc := 82) 1 dX6_step_82 rfl rfl ?_
      refine r_lload_n (pc := 83) 2 dX6_step_83 rfl rfl ?_
      refine r_lcmp (pc := 84) dX6_step_84 ?_
      refine r_if_ge (pc := 85) (tgt := 92) dX6_step_85 rfl hF (fun hF => ?_) (fun hF => ?_)
      · refine r_lconst (pc := 92) (w := 0) dX6_step_92 (by decide) ?_
        exact T.sub ((w_X6_step_p93) M (0 : Int64) hF) [] [] rfl rfl
      · refine r_lconst (pc := 88) (w := 1) dX6_step_88 (by decide) ?_
        refine r_goto (pc := 89) (tgt := 93) dX6_step_89 rfl ?_
        exact T.sub ((w_X6_step_p93) M (1 : Int64) hF) [] [] rfl rfl
    · cases hb9
      refine r_tabIn (pc := 1) (tgt := 98) dX6_step_1 h7 h8 (by rw [e9]; rfl) rfl ?_
      refine r_lload_n (pc := 98) 1 dX6_step_98 rfl rfl ?_
      refine r_lload_n (pc := 99) 2 dX6_step_99 rfl rfl ?_
      refine r_lcmp (pc := 100) dX6_step_100 ?_
      refine r_if_ne (pc := 101) (tgt := 108) dX6_step_101 rfl hF (fun hF => ?_) (fun hF => ?_)
      · refine r_lconst (pc := 108) (w := 0) dX6_step_108 (by decide) ?_
        exact T.sub ((w_X6_step_p109) M (0 : Int64) hF) [] [] rfl rfl
      · refine r_lconst (pc := 104) (w := 1) dX6_step_104 (by decide) ?_
        refine r_goto (pc := 105) (tgt := 109) dX6_step_105 rfl ?_
        exact T.sub ((w_X6_step_p109) M (1 : Int64) hF) [] [] rfl rfl
theorem k_X6_step (G : EG) (M : Mem) (a0 : Int32) (a1 : Int64) (a2 : Int64) (q : Mem × Int64) (h : F_X6_step M a0 a1 a2 = some q) : Kt yX6_step P_X6_step M [] [.int a0, .long a1, .long a2] (RJ G q) := Kt.of (by decide +kernel) rfl (Nat.le_of_ble_eq_true rfl) rfl (fun X hz => w_X6_step M a0 a1 a2 h)
set_option maxHeartbeats 4000000 in
theorem w_X6_valueOf_p34 {X : Option Cx} {G : EG} {res : Mem × Int64} : ∀ (M : Mem) (y0 : Int64), F_X6_valueOf_p34 M y0 = some res → T X (RJ G res) P_X6_valueOf M [] [] [.long y0] 34 := by
  intro M y0 hF
  unfold F_X6_valueOf_p34 at hF
  exact r_lret (pc := 34) dX6_valueOf_34 hF
set_option maxHeartbeats 4000000 in
theorem w_X6_valueOf_p33 {X : Option Cx} {G : EG} {res : Mem × Int64} : ∀ (M : Mem), F_X6_valueOf_p33 M = some res → T X (RJ G res) P_X6_valueOf M [] [] [] 33 := by
  intro M hF
  unfold F_X6_valueOf_p33 at hF
  refine r_lconst (pc := 33) (w := 0) dX6_valueOf_33 (by decide) ?_
  exact T.sub ((w_X6_valueOf_p34) M (0 : Int64) hF) [] [] rfl rfl
set_option maxHeartbeats 4000000 in
theorem w_X6_valueOf {X : Option Cx} {G : EG} {res : Mem × Int64} (M : Mem) (a0 : Nat) (a1 : Int32) (hF : F_X6_valueOf M a0 a1 = some res) : T X (RJ G res) P_X6_valueOf M [(a0, 8)] [(0, .ref a0), (1, .int a1)] [] 0 := by
  unfold F_X6_valueOf at hF
  refine r_iload_n (pc := 0) 1 dX6_valueOf_0 rfl rfl ?_
  refine r_if_lt (pc := 1) (tgt := 7) dX6_valueOf_1 rfl hF (fun hF => ?_) (fun hF => ?_)
  · refine r_iconst (pc := 7) (w := -1) dX6_valueOf_7 (by decide) ?_
    refine r_iload_n (pc := 8) 1 dX6_valueOf_8 rfl rfl ?_
    refine r_isub (pc := 9) dX6_valueOf_9 ?_
    refine r_gI (pc := 10) hF (fun v1 hF => ?_)
    refine r_istore_n (pc := 10) (L1 := [(2, .int v1), (0, .ref a0), (1, .int a1)]) dX6_valueOf_10 rfl (by decide) rfl ?_
    refine r_iload_n (pc := 11) 0 dX6_valueOf_11 rfl rfl ?_
    refine r_if_lt (pc := 12) (tgt := 33) dX6_valueOf_12 rfl hF (fun hF => ?_) (fun hF => ?_)
    · exact T.sub ((w_X6_valueOf_p33) M hF) [] [] rfl rfl
    · refine r_iload_n (pc := 15) 0 dX6_valueOf_15 rfl rfl ?_
      refine r_aload_n (pc := 16) 1 dX6_valueOf_16 rfl rfl ?_
      refine gf_X6_18 (pc := 17) (j := 0) rfl dX6_valueOf_17 ?_
      refine r_lr (by decide) hF (fun b2 hF => ?_)
      refine r_alen (pc := 20) (j := 0) rfl (by decide) dX6_valueOf_20 ?_
      refine r_icmp_ge (pc := 21) (tgt := 33) dX6_valueOf_21 rfl hF (fun hF => ?_) (fun hF => ?_)
      · exact T.sub ((w_X6_valueOf_p33) M hF) [] [] rfl rfl
      · refine r_aload_n (pc := 24) 1 dX6_valueOf_24 rfl rfl ?_
        refine gf_X6_18 (pc := 25) (j := 1) rfl dX6_valueOf_25 ?_
        refine r_lr (by decide) hF (fun b3 hF => ?_)
        refine r_iload_n (pc := 28) 0 dX6_valueOf_28 rfl rfl ?_
        refine r_lald (pc := 29) (j := 0) rfl dX6_valueOf_29 hF (fun hF => ?_)
        refine r_goto (pc := 30) (tgt := 34) dX6_valueOf_30 rfl ?_
        exact T.sub ((w_X6_valueOf_p34) M (gB M b3 (ixn v1)) hF) [] [] rfl rfl
  · refine r_iload_n (pc := 4) 1 dX6_valueOf_4 rfl rfl ?_
    refine r_i2l (pc := 5) dX6_valueOf_5 ?_
    exact r_lret (pc := 6) dX6_valueOf_6 hF
theorem k_X6_valueOf (G : EG) (M : Mem) (a0 : Nat) (a1 : Int32) (q : Mem × Int64) (h : F_X6_valueOf M a0 a1 = some q) : Kt yX6_valueOf P_X6_valueOf M [(a0, 8)] [.ref a0, .int a1] (RJ G q) := Kt.of (by decide +kernel) rfl (Nat.le_of_ble_eq_true rfl) rfl (fun X hz => w_X6_valueOf M a0 a1 h)
set_option maxHeartbeats 4000000 in
theorem w_X6_workOut_p107 {X : Option Cx} {G : EG} {res : Mem × Int64} {k5 : Mem → Nat → Nat → Int32 → Int32 → Int32 → Option (Mem × Int64)} (hk5 : ∀ (M : Mem) (x0 : Nat) (x1 : Nat) (x2 : Int32) (x3 : Int32) (x4 : Int32), k5 M x0 x1 x2 x3 x4 = some res → T X (RJ G res) P_X6_workOut M [(x0, 8), (x1, 20)] [(0, .ref x0), (1, .ref x1), (2, .int x2), (3, .int x3), (4, .int x4)] [] 5) : ∀ (M : Mem) (x0 : Nat) (x1 : Nat) (x2 : Int32) (x3 : Int32) (x4 : Int32), F_X6_workOut_p107 k5 M x0 x1 x2 x3 x4 = some res → T X (RJ G res) P_X6_workOut M [(x0, 8), (x1, 20)] [(0, .ref x0), (1, .ref x1), (2, .int x2), (3, .int x3), (4, .int x4)] [] 107 := by
  intro M x0 x1 x2 x3 x4 hF
  unfold F_X6_workOut_p107 at hF
  obtain ⟨v1, e9, hF⟩ := bnd_e hF
  refine r_iinc (pc := 107) (w := v1) (k := 4) (L1 := [(4, .int v1), (0, .ref x0), (1, .ref x1), (2, .int x2), (3, .int x3)]) dX6_workOut_107 rfl (by rw [e9]; rfl) (by decide) rfl ?_
  clear e9
  refine r_goto (pc := 110) (tgt := 5) dX6_workOut_110 rfl ?_
  exact T.sub (hk5 M x0 x1 x2 x3 v1 hF) [0, 1] [1, 2, 3, 4, 0] rfl rfl
set_option maxHeartbeats 4000000 in
theorem w_X6_workOut_p5 {X : Option Cx} {G : EG} {res : Mem × Int64} {k45 : Mem → Option (Mem × Int64)} (hk45 : ∀ (M : Mem), k45 M = some res → T X (RJ G res) P_X6_workOut M [] [] [] 45) {k113 : Mem → Nat → Int32 → Option (Mem × Int64)} (hk113 : ∀ (M : Mem) (x0 : Nat) (x3 : Int32), k113 M x0 x3 = some res → T X (RJ G res) P_X6_workOut M [(x0, 8)] [(0, .ref x0), (3, .int x3)] [] 113) : ∀ (n : Nat) (M : Mem) (x0 : Nat) (x1 : Nat) (x2 : Int32) (x3 : Int32) (x4 : Int32), F_X6_workOut_p5 k45 k113 n M x0 x1 x2 x3 x4 = some res → T X (RJ G res) P_X6_workOut M [(x0, 8), (x1, 20)] [(0, .ref x0), (1, .ref x1), (2, .int x2), (3, .int x3), (4, .int x4)] [] 5 := by
  intro n
  induction n with
  | zero =>
    intro M x0 x1 x2 x3 x4 hF
    cases hF
  | succ n ih =>
    intro M x0 x1 x2 x3 x4 hF
    unfold F_X6_workOut_p5 at hF
    refine r_iload (pc := 5) 4 dX6_workOut_5 rfl ?_
    refine r_iload_n (pc := 7) 2 dX6_workOut_7 rfl rfl ?_
    refine r_icmp_ge (pc := 8) (tgt := 113) dX6_workOut_8 rfl hF (fun hF => ?_) (fun hF => ?_)
    · exact T.sub (hk113 M x0 x3 hF) [0] [0, 3] rfl rfl
    · refine r_iload (pc := 11) 4 dX6_workOut_11 rfl ?_
      refine r_aload_n (pc := 13) 1 dX6_workOut_13 rfl rfl ?_
      refine r_alen (pc := 14) (j := 1) rfl (by decide) dX6_workOut_14 ?_
      refine r_icmp_ge (pc := 15) (tgt := 113) dX6_workOut_15 rfl hF (fun hF => ?_) (fun hF => ?_)
      · exact T.sub (hk113 M x0 x3 hF) [0] [0, 3] rfl rfl
      · refine r_aload_n (pc := 18) 1 dX6_workOut_18 rfl rfl ?_
        refine r_iload (pc := 19) 4 dX6_workOut_19 rfl ?_
        refine r_iald (pc := 21) (j := 1) rfl dX6_workOut_21 hF (fun hF => ?_)
        refine r_gI (pc := 22) hF (fun v1 hF => ?_)
        refine r_istore (pc := 22) (L1 := [(5, .int v1), (0, .ref x0), (1, .ref x1), (2, .int x2), (3, .int x3), (4, .int x4)]) dX6_workOut_22 (by decide) rfl ?_
        refine r_iload (pc := 24) 0 dX6_workOut_24 rfl ?_
        refine r_bipush (pc := 26) (w := -10) dX6_workOut_26 (by decide) ?_
        refine r_icmp_gt (pc := 28) (tgt := 83) dX6_workOut_28 rfl hF (fun hF => ?_) (fun hF => ?_)
        · refine r_iload_n (pc := 83) 4 dX6_workOut_83 rfl rfl ?_
          refine r_aload_n (pc := 84) 1 dX6_workOut_84 rfl rfl ?_
          refine gf_X6_22 (pc := 85) (j := 0) rfl dX6_workOut_85 ?_
          refine r_lr (by decide) hF (fun b2 hF => ?_)
          refine r_alen (pc := 88) (j := 0) rfl (by decide) dX6_workOut_88 ?_
          refine r_icmp_ge (pc := 89) (tgt := 107) dX6_workOut_89 rfl hF (fun hF => ?_) (fun hF => ?_)
          · exact T.sub ((w_X6_workOut_p107 ih) M x0 x1 x2 x3 x4 hF) [1, 2] [1, 2, 3, 4, 5] rfl rfl
          · refine r_aload_n (pc := 92) 1 dX6_workOut_92 rfl rfl ?_
            refine gf_X6_22 (pc := 93) (j := 1) rfl dX6_workOut_93 ?_
            refine r_lr (by decide) hF (fun b3 hF => ?_)
            refine r_iload_n (pc := 96) 4 dX6_workOut_96 rfl rfl ?_
            refine r_aload_n (pc := 97) 1 dX6_workOut_97 rfl rfl ?_
            refine r_iload (pc := 98) 0 dX6_workOut_98 rfl ?_
            refine r_callV_J (pc := 100) (Py := P_X6_valueOf) (n := 1) (As := [.int v1]) (fun q e => k_X6_valueOf G _ x0 v1 q e) (c := 7) (Tb := TX6) (N := 3) rfl (by decide) (j0 := 2) rfl tw_428 tw_430 tw_4 tw_66 tw_431 hd_X6_valueOf ⟨Nat.le_of_ble_eq_true rfl, Nat.le_of_ble_eq_true rfl⟩ rfl [2] rfl rfl (Nat.le_of_ble_eq_true rfl) dX6_workOut_100 hF (fun M4 r5 hF => ?_)
            refine r_last (pc := 103) (j := 0) rfl dX6_workOut_103 hF (fun M6 hF => ?_)
            obtain ⟨v7, e9, hF⟩ := bnd_e hF
            refine r_iinc (pc := 104) (w := v7) (k := 4) (L1 := [(3, .int v7), (5, .int v1), (0, .ref x0), (1, .ref x1), (2, .int x2), (4, .int x4)]) dX6_workOut_104 rfl (by rw [e9]; rfl) (by decide) rfl ?_
            clear e9
            exact T.sub ((w_X6_workOut_p107 ih) M6 x0 x1 x2 v7 x4 hF) [2, 3] [2, 3, 4, 0, 5] rfl rfl
        · refine r_iload_n (pc := 31) 4 dX6_workOut_31 rfl rfl ?_
          refine r_iconst (pc := 32) (w := 2) dX6_workOut_32 (by decide) ?_
          refine r_icmp_lt (pc := 33) (tgt := 45) dX6_workOut_33 rfl hF (fun hF => ?_) (fun hF => ?_)
          · exact T.sub (hk45 M hF) [] [] rfl rfl
          · refine r_iload_n (pc := 36) 4 dX6_workOut_36 rfl rfl ?_
            refine r_aload_n (pc := 37) 1 dX6_workOut_37 rfl rfl ?_
            refine gf_X6_22 (pc := 38) (j := 0) rfl dX6_workOut_38 ?_
            refine r_lr (by decide) hF (fun b8 hF => ?_)
            refine r_alen (pc := 41) (j := 0) rfl (by decide) dX6_workOut_41 ?_
            refine r_icmp_le (pc := 42) (tgt := 47) dX6_workOut_42 rfl hF (fun hF => ?_) (fun hF => ?_)
            · obtain ⟨v9, e9, hF⟩ := bnd_e hF
              refine r_iinc (pc := 47) (w := v9) (k := 4) (L1 := [(3, .int v9), (5, .int v1), (0, .ref x0), (1, .ref x1), (2, .int x2), (4, .int x4)]) dX6_workOut_47 rfl (by rw [e9]; rfl) (by decide) rfl ?_
              clear e9
              refine r_aload_n (pc := 50) 2 dX6_workOut_50 rfl rfl ?_
              refine gf_X6_22 (pc := 51) (j := 1) rfl dX6_workOut_51 ?_
              refine r_lr (by decide) hF (fun b10 hF => ?_)
              refine r_iload_n (pc := 54) 0 dX6_workOut_54 rfl rfl ?_
              refine r_iconst (pc := 55) (w := 1) dX6_workOut_55 (by decide) ?_
              refine r_isub (pc := 56) dX6_workOut_56 ?_
              refine r_bipush (pc := 57) (w := -10) dX6_workOut_57 (by decide) ?_
              refine r_iload (pc := 59) 1 dX6_workOut_59 rfl ?_
              refine r_isub (pc := 61) dX6_workOut_61 ?_
              refine r_aload_n (pc := 62) 2 dX6_workOut_62 rfl rfl ?_
              refine gf_X6_22 (pc := 63) (j := 2) rfl dX6_workOut_63 ?_
              refine r_lr (by decide) hF (fun b11 hF => ?_)
              refine r_iload_n (pc := 66) 0 dX6_workOut_66 rfl rfl ?_
              refine r_iconst (pc := 67) (w := 1) dX6_workOut_67 (by decide) ?_
              refine r_isub (pc := 68) dX6_workOut_68 ?_
              refine r_lald (pc := 69) (j := 0) rfl dX6_workOut_69 hF (fun hF => ?_)
              refine r_aload_n (pc := 70) 2 dX6_workOut_70 rfl rfl ?_
              refine gf_X6_22 (pc := 71) (j := 3) rfl dX6_workOut_71 ?_
              refine r_lr (by decide) hF (fun b12 hF => ?_)
              refine r_iload_n (pc := 74) 0 dX6_workOut_74 rfl rfl ?_
              refine r_lald (pc := 75) (j := 0) rfl dX6_workOut_75 hF (fun hF => ?_)
              refine r_callS_J (pc := 76) (Py := P_X6_step) (n := 3) (As := [.int ((-10 : Int32) - v1), .long (gB M b11 (ixn (v9 - (1 : Int32)))), .long (gB M b12 (ixn v9))]) (fun q e => k_X6_step G _ ((-10 : Int32) - v1) (gB M b11 (ixn (v9 - (1 : Int32)))) (gB M b12 (ixn v9)) q e) tw_423 tw_424 tw_66 tw_425 hd_X6_step ⟨Nat.le_of_ble_eq_true rfl, Nat.le_of_ble_eq_true rfl⟩ rfl [] rfl rfl (Nat.le_of_ble_eq_true rfl) dX6_workOut_76 hF (fun M13 r14 hF => ?_)
              refine r_last (pc := 79) (j := 2) rfl dX6_workOut_79 hF (fun M15 hF => ?_)
              refine r_goto (pc := 80) (tgt := 107) dX6_workOut_80 rfl ?_
              exact T.sub ((w_X6_workOut_p107 ih) M15 x0 x1 x2 v9 x4 hF) [4, 5] [2, 3, 4, 0, 5] rfl rfl
            · exact T.sub (hk45 M hF) [] [] rfl rfl
set_option maxHeartbeats 4000000 in
theorem w_X6_workOut_p45 {X : Option Cx} {G : EG} {res : Mem × Int64} : ∀ (M : Mem), F_X6_workOut_p45 M = some res → T X (RJ G res) P_X6_workOut M [] [] [] 45 := by
  intro M hF
  unfold F_X6_workOut_p45 at hF
  refine r_lconst (pc := 45) (w := 0) dX6_workOut_45 (by decide) ?_
  exact r_lret (pc := 46) dX6_workOut_46 hF
set_option maxHeartbeats 4000000 in
theorem w_X6_workOut_p138 {X : Option Cx} {G : EG} {res : Mem × Int64} : ∀ (M : Mem) (y0 : Int64), F_X6_workOut_p138 M y0 = some res → T X (RJ G res) P_X6_workOut M [] [] [.long y0] 138 := by
  intro M y0 hF
  unfold F_X6_workOut_p138 at hF
  exact r_lret (pc := 138) dX6_workOut_138 hF
set_option maxHeartbeats 4000000 in
theorem w_X6_workOut_p137 {X : Option Cx} {G : EG} {res : Mem × Int64} : ∀ (M : Mem), F_X6_workOut_p137 M = some res → T X (RJ G res) P_X6_workOut M [] [] [] 137 := by
  intro M hF
  unfold F_X6_workOut_p137 at hF
  refine r_lconst (pc := 137) (w := 0) dX6_workOut_137 (by decide) ?_
  exact T.sub ((w_X6_workOut_p138) M (0 : Int64) hF) [] [] rfl rfl
set_option maxHeartbeats 4000000 in
theorem w_X6_workOut_p113 {X : Option Cx} {G : EG} {res : Mem × Int64} : ∀ (M : Mem) (x0 : Nat) (x3 : Int32), F_X6_workOut_p113 M x0 x3 = some res → T X (RJ G res) P_X6_workOut M [(x0, 8)] [(0, .ref x0), (3, .int x3)] [] 113 := by
  intro M x0 x3 hF
  unfold F_X6_workOut_p113 at hF
  refine r_iload_n (pc := 113) 1 dX6_workOut_113 rfl rfl ?_
  refine r_if_le (pc := 114) (tgt := 137) dX6_workOut_114 rfl hF (fun hF => ?_) (fun hF => ?_)
  · exact T.sub ((w_X6_workOut_p137) M hF) [] [] rfl rfl
  · refine r_iload_n (pc := 117) 1 dX6_workOut_117 rfl rfl ?_
    refine r_aload_n (pc := 118) 0 dX6_workOut_118 rfl rfl ?_
    refine gf_X6_22 (pc := 119) (j := 0) rfl dX6_workOut_119 ?_
    refine r_lr (by decide) hF (fun b1 hF => ?_)
    refine r_alen (pc := 122) (j := 0) rfl (by decide) dX6_workOut_122 ?_
    refine r_icmp_gt (pc := 123) (tgt := 137) dX6_workOut_123 rfl hF (fun hF => ?_) (fun hF => ?_)
    · exact T.sub ((w_X6_workOut_p137) M hF) [] [] rfl rfl
    · refine r_aload_n (pc := 126) 0 dX6_workOut_126 rfl rfl ?_
      refine gf_X6_22 (pc := 127) (j := 1) rfl dX6_workOut_127 ?_
      refine r_lr (by decide) hF (fun b2 hF => ?_)
      refine r_iload_n (pc := 130) 1 dX6_workOut_130 rfl rfl ?_
      refine r_iconst (pc := 131) (w := 1) dX6_workOut_131 (by decide) ?_
      refine r_isub (pc := 132) dX6_workOut_132 ?_
      refine r_lald (pc := 133) (j := 0) rfl dX6_workOut_133 hF (fun hF => ?_)
      refine r_goto (pc := 134) (tgt := 138) dX6_workOut_134 rfl ?_
      exact T.sub ((w_X6_workOut_p138) M (gB M b2 (ixn (x3 - (1 : Int32)))) hF) [] [] rfl rfl
set_option maxHeartbeats 4000000 in
theorem w_X6_workOut {X : Option Cx} {G : EG} {res : Mem × Int64} (M : Mem) (a0 : Nat) (a1 : Nat) (a2 : Int32) (hF : F_X6_workOut M a0 a1 a2 = some res) : T X (RJ G res) P_X6_workOut M [(a0, 8), (a1, 20)] [(0, .ref a0), (1, .ref a1), (2, .int a2)] [] 0 := by
  unfold F_X6_workOut at hF
  refine r_iconst (pc := 0) (w := 0) dX6_workOut_0 (by decide) ?_
  refine r_istore_n (pc := 1) (L1 := [(3, .int ((0 : Int32))), (0, .ref a0), (1, .ref a1), (2, .int a2)]) dX6_workOut_1 rfl (by decide) rfl ?_
  refine r_iconst (pc := 2) (w := 0) dX6_workOut_2 (by decide) ?_
  refine r_istore (pc := 3) (L1 := [(4, .int ((0 : Int32))), (3, .int ((0 : Int32))), (0, .ref a0), (1, .ref a1), (2, .int a2)]) dX6_workOut_3 (by decide) rfl ?_
  exact T.sub ((w_X6_workOut_p5 (w_X6_workOut_p45) (w_X6_workOut_p113) FU) M a0 a1 a2 (0 : Int32) (0 : Int32) hF) [0, 1] [2, 3, 4, 1, 0] rfl rfl
theorem k_X6_workOut (G : EG) (M : Mem) (a0 : Nat) (a1 : Nat) (a2 : Int32) (q : Mem × Int64) (h : F_X6_workOut M a0 a1 a2 = some q) : Kt yX6_workOut P_X6_workOut M [(a0, 8), (a1, 20)] [.ref a0, .ref a1, .int a2] (RJ G q) := Kt.of (by decide +kernel) rfl (Nat.le_of_ble_eq_true rfl) rfl (fun X hz => w_X6_workOut M a0 a1 a2 h)
set_option maxHeartbeats 4000000 in
theorem w_X6_worth_p103 {X : Option Cx} {G : EG} {res : Mem × Int64} : ∀ (M : Mem) (y0 : Int64), F_X6_worth_p103 M y0 = some res → T X (RJ G res) P_X6_worth M [] [] [.long y0] 103 := by
  intro M y0 hF
  unfold F_X6_worth_p103 at hF
  exact r_lret (pc := 103) dX6_worth_103 hF
set_option maxHeartbeats 4000000 in
theorem w_X6_worth {X : Option Cx} {G : EG} {res : Mem × Int64} (M : Mem) (a0 : Nat) (a1 : Option Nat) (a2 : Nat) (hF : F_X6_worth M a0 a1 a2 = some res) : T X (RJ G res) P_X6_worth M [(a0, 8), (a2, 2)] [(0, .ref a0), (1, va_rf a1), (2, .ref a2)] [] 0 := by
  unfold F_X6_worth at hF
  refine r_aloado_n (pc := 0) 1 dX6_worth_0 rfl rfl ?_
  refine r_ifnonnull (pc := 1) (tgt := 6) dX6_worth_1 rfl hF (fun e9 h0 => ?_) (fun b1 e9 h0 => ?_)
  · clear hF
    subst e9
    have hF := h0
    clear h0
    refine r_lconst (pc := 4) (w := 0) dX6_worth_4 (by decide) ?_
    exact r_lret (pc := 5) dX6_worth_5 hF
  · clear hF
    subst e9
    have hF := h0
    clear h0
    refine r_aload_n (pc := 6) 0 dX6_worth_6 rfl rfl ?_
    refine gf_X6_18 (pc := 7) (j := 0) rfl dX6_worth_7 ?_
    refine r_lr (by decide) hF (fun b2 hF => ?_)
    refine r_iconst (pc := 10) (w := 5) dX6_worth_10 (by decide) ?_
    refine r_aload_n (pc := 11) 2 dX6_worth_11 rfl rfl ?_
    refine gf_X6_55 (pc := 12) (j := 2) rfl dX6_worth_12 ?_
    refine r_lr (by decide) hF (fun b3 hF => ?_)
    refine gf_X6_61 (pc := 15) (j := 0) rfl dX6_worth_15 ?_
    refine r_ldc2 (pc := 18) (w := 1000) tw_418 dX6_worth_18 ?_
    refine r_ldivc (pc := 21) dX6_worth_21 (by decide) ?_
    refine r_last (pc := 22) (j := 1) rfl dX6_worth_22 hF (fun M4 hF => ?_)
    refine r_aload_n (pc := 23) 0 dX6_worth_23 rfl rfl ?_
    refine gf_X6_18 (pc := 24) (j := 2) rfl dX6_worth_24 ?_
    refine r_lr (by decide) hF (fun b5 hF => ?_)
    refine r_bipush (pc := 27) (w := 6) dX6_worth_27 (by decide) ?_
    refine r_aload_n (pc := 29) 2 dX6_worth_29 rfl rfl ?_
    refine gf_X6_69 (pc := 30) (j := 4) rfl dX6_worth_30 ?_
    refine r_lr (by decide) hF (fun b6 hF => ?_)
    refine gf_X6_61 (pc := 33) (j := 0) rfl dX6_worth_33 ?_
    refine r_ldc2 (pc := 36) (w := 1000) tw_418 dX6_worth_36 ?_
    refine r_ldivc (pc := 39) dX6_worth_39 (by decide) ?_
    refine r_last (pc := 40) (j := 1) rfl dX6_worth_40 hF (fun M7 hF => ?_)
    refine r_aload_n (pc := 41) 0 dX6_worth_41 rfl rfl ?_
    refine gf_X6_18 (pc := 42) (j := 4) rfl dX6_worth_42 ?_
    refine r_lr (by decide) hF (fun b8 hF => ?_)
    refine r_bipush (pc := 45) (w := 7) dX6_worth_45 (by decide) ?_
    refine r_aload_n (pc := 47) 2 dX6_worth_47 rfl rfl ?_
    refine gf_X6_72 (pc := 48) (j := 6) rfl dX6_worth_48 ?_
    refine r_i2l (pc := 51) dX6_worth_51 ?_
    refine r_last (pc := 52) (j := 0) rfl dX6_worth_52 hF (fun M9 hF => ?_)
    refine r_aload_n (pc := 53) 0 dX6_worth_53 rfl rfl ?_
    refine gf_X6_18 (pc := 54) (j := 5) rfl dX6_worth_54 ?_
    refine r_lr (by decide) hF (fun b10 hF => ?_)
    refine r_bipush (pc := 57) (w := 8) dX6_worth_57 (by decide) ?_
    refine r_aload_n (pc := 59) 2 dX6_worth_59 rfl rfl ?_
    refine gf_X6_75 (pc := 60) (j := 7) rfl dX6_worth_60 ?_
    refine r_i2l (pc := 63) dX6_worth_63 ?_
    refine r_last (pc := 64) (j := 0) rfl dX6_worth_64 hF (fun M11 hF => ?_)
    refine r_aload_n (pc := 65) 0 dX6_worth_65 rfl rfl ?_
    refine r_aload_n (pc := 66) 1 dX6_worth_66 rfl rfl ?_
    refine r_kind (by decide) hF (fun hF => ?_)
    refine gf_X6_78 (pc := 67) (j := 0) rfl dX6_worth_67 ?_
    refine r_lr (by decide) hF (fun b12 hF => ?_)
    refine r_aload_n (pc := 70) 1 dX6_worth_70 rfl rfl ?_
    refine gf_X6_81 (pc := 71) (j := 1) rfl dX6_worth_71 ?_
    refine r_callV_J (pc := 74) (Py := P_X6_workOut) (n := 2) (As := [.ref b12, .int (gI M11 603 b1)]) (fun q e => k_X6_workOut G _ a0 b12 (gI M11 603 b1) q e) (c := 7) (Tb := TX6) (N := 3) rfl (by decide) (j0 := 8) rfl tw_419 tw_421 tw_3 tw_66 tw_422 hd_X6_workOut ⟨Nat.le_of_ble_eq_true rfl, Nat.le_of_ble_eq_true rfl⟩ rfl [8, 0] rfl rfl (Nat.le_of_ble_eq_true rfl) dX6_worth_74 hF (fun M13 r14 hF => ?_)
    refine r_lstore_n (pc := 77) (L1 := [(3, .long r14), (0, .ref a0), (1, .ref b1), (2, .ref a2)]) dX6_worth_77 rfl (by decide) rfl ?_
    refine r_lload_n (pc := 78) 0 dX6_worth_78 rfl rfl ?_
    refine r_lconst (pc := 79) (w := 0) dX6_worth_79 (by decide) ?_
    refine r_lcmp (pc := 80) dX6_worth_80 ?_
    refine r_if_ge (pc := 81) (tgt := 88) dX6_worth_81 rfl hF (fun hF => ?_) (fun hF => ?_)
    · refine r_lload_n (pc := 88) 0 dX6_worth_88 rfl rfl ?_
      refine r_ldc2 (pc := 89) (w := 99999) tw_432 dX6_worth_89 ?_
      refine r_lcmp (pc := 92) dX6_worth_92 ?_
      refine r_if_le (pc := 93) (tgt := 102) dX6_worth_93 rfl hF (fun hF => ?_) (fun hF => ?_)
      · refine r_lload_n (pc := 102) 0 dX6_worth_102 rfl rfl ?_
        exact T.sub ((w_X6_worth_p103) M13 r14 hF) [] [] rfl rfl
      · refine r_ldc2 (pc := 96) (w := 99999) tw_432 dX6_worth_96 ?_
        refine r_goto (pc := 99) (tgt := 103) dX6_worth_99 rfl ?_
        exact T.sub ((w_X6_worth_p103) M13 (99999 : Int64) hF) [] [] rfl rfl
    · refine r_lconst (pc := 84) (w := 0) dX6_worth_84 (by decide) ?_
      refine r_goto (pc := 85) (tgt := 103) dX6_worth_85 rfl ?_
      exact T.sub ((w_X6_worth_p103) M13 (0 : Int64) hF) [] [] rfl rfl
theorem k_X6_worth (G : EG) (M : Mem) (a0 : Nat) (a1 : Option Nat) (a2 : Nat) (q : Mem × Int64) (h : F_X6_worth M a0 a1 a2 = some q) : Kt yX6_worth P_X6_worth M [(a0, 8), (a2, 2)] [.ref a0, va_rf a1, .ref a2] (RJ G q) := Kt.of (by decide +kernel) rfl (by cases a1 <;>  exact Nat.le_of_ble_eq_true rfl) (by cases a1 <;>  rfl) (fun X hz => w_X6_worth M a0 a1 a2 h)
set_option maxHeartbeats 4000000 in
theorem w_X7_liftAt_p10 {X : Option Cx} {G : EG} {res : Mem × Int64} {k60 : Mem → Nat → Int64 → Int64 → Int64 → Int32 → Int64 → Option (Mem × Int64)} (hk60 : ∀ (M : Mem) (x0 : Nat) (x1 : Int64) (x3 : Int64) (x5 : Int64) (x7 : Int32) (x8 : Int64), k60 M x0 x1 x3 x5 x7 x8 = some res → T X (RJ G res) P_X7_liftAt M [(x0, 9)] [(0, .ref x0), (1, .long x1), (3, .long x3), (5, .long x5), (7, .int x7), (8, .long x8)] [] 60) {k121 : Mem → Int64 → Option (Mem × Int64)} (hk121 : ∀ (M : Mem) (x3 : Int64), k121 M x3 = some res → T X (RJ G res) P_X7_liftAt M [] [(3, .long x3)] [] 121) : ∀ (n : Nat) (M : Mem) (x0 : Nat) (x1 : Int64) (x3 : Int64) (x5 : Int64) (x7 : Int32), F_X7_liftAt_p10 k60 k121 n M x0 x1 x3 x5 x7 = some res → T X (RJ G res) P_X7_liftAt M [(x0, 9)] [(0, .ref x0), (1, .long x1), (3, .long x3), (5, .long x5), (7, .int x7)] [] 10 := by
  intro n
  induction n with
  | zero =>
    intro M x0 x1 x3 x5 x7 hF
    cases hF
  | succ n ih =>
    intro M x0 x1 x3 x5 x7 hF
    unfold F_X7_liftAt_p10 at hF
    refine r_iload (pc := 10) 4 dX7_liftAt_10 rfl ?_
    refine r_aload_n (pc := 12) 0 dX7_liftAt_12 rfl rfl ?_
    refine gf_X7_18 (pc := 13) (j := 0) rfl dX7_liftAt_13 ?_
    refine r_icmp_ge (pc := 16) (tgt := 121) dX7_liftAt_16 rfl hF (fun hF => ?_) (fun hF => ?_)
    · exact T.sub (hk121 M x3 hF) [] [2] rfl rfl
    · refine r_iload (pc := 19) 4 dX7_liftAt_19 rfl ?_
      refine r_aload_n (pc := 21) 0 dX7_liftAt_21 rfl rfl ?_
      refine gf_X7_9 (pc := 22) (j := 0) rfl dX7_liftAt_22 ?_
      refine r_lr (by decide) hF (fun b1 hF => ?_)
      refine r_alen (pc := 25) (j := 0) rfl (by decide) dX7_liftAt_25 ?_
      refine r_icmp_ge (pc := 26) (tgt := 121) dX7_liftAt_26 rfl hF (fun hF => ?_) (fun hF => ?_)
      · exact T.sub (hk121 M x3 hF) [] [2] rfl rfl
      · refine r_iload (pc := 29) 4 dX7_liftAt_29 rfl ?_
        refine r_aload_n (pc := 31) 0 dX7_liftAt_31 rfl rfl ?_
        refine gf_X7_15 (pc := 32) (j := 1) rfl dX7_liftAt_32 ?_
        refine r_lr (by decide) hF (fun b2 hF => ?_)
        refine r_alen (pc := 35) (j := 0) rfl (by decide) dX7_liftAt_35 ?_
        refine r_icmp_ge (pc := 36) (tgt := 121) dX7_liftAt_36 rfl hF (fun hF => ?_) (fun hF => ?_)
        · exact T.sub (hk121 M x3 hF) [] [2] rfl rfl
        · refine r_ldc2 (pc := 39) (w := 1000) tw_449 dX7_liftAt_39 ?_
          refine r_aload_n (pc := 42) 0 dX7_liftAt_42 rfl rfl ?_
          refine gf_X7_9 (pc := 43) (j := 2) rfl dX7_liftAt_43 ?_
          refine r_lr (by decide) hF (fun b3 hF => ?_)
          refine r_iload (pc := 46) 4 dX7_liftAt_46 rfl ?_
          refine r_iald (pc := 48) (j := 0) rfl dX7_liftAt_48 hF (fun hF => ?_)
          refine r_i2l (pc := 49) dX7_liftAt_49 ?_
          refine r_lmul (pc := 50) dX7_liftAt_50 ?_
          refine r_gJ (pc := 51) hF (fun v4 hF => ?_)
          refine r_lstore (pc := 51) (L1 := [(8, .long v4), (0, .ref x0), (1, .long x1), (3, .long x3), (5, .long x5), (7, .int x7)]) dX7_liftAt_51 (by decide) rfl ?_
          refine r_lload_n (pc := 53) 2 dX7_liftAt_53 rfl rfl ?_
          refine r_lload (pc := 54) 0 dX7_liftAt_54 rfl ?_
          refine r_lcmp (pc := 56) dX7_liftAt_56 ?_
          refine r_if_ge (pc := 57) (tgt := 102) dX7_liftAt_57 rfl hF (fun hF => ?_) (fun hF => ?_)
          · refine r_aload_n (pc := 102) 1 dX7_liftAt_102 rfl rfl ?_
            refine gf_X7_15 (pc := 103) (j := 3) rfl dX7_liftAt_103 ?_
            refine r_lr (by decide) hF (fun b5 hF => ?_)
            refine r_iload (pc := 106) 5 dX7_liftAt_106 rfl ?_
            refine r_iald (pc := 108) (j := 0) rfl dX7_liftAt_108 hF (fun hF => ?_)
            refine r_i2l (pc := 109) dX7_liftAt_109 ?_
            refine r_gJ (pc := 110) hF (fun v6 hF => ?_)
            refine r_lstore_n (pc := 110) (L1 := [(3, .long v6), (8, .long v4), (0, .ref x0), (1, .long x1), (5, .long x5), (7, .int x7)]) dX7_liftAt_110 rfl (by decide) rfl ?_
            refine r_lload (pc := 111) 1 dX7_liftAt_111 rfl ?_
            refine r_lstore (pc := 113) (L1 := [(5, .long v4), (3, .long v6), (8, .long v4), (0, .ref x0), (1, .long x1), (7, .int x7)]) dX7_liftAt_113 (by decide) rfl ?_
            obtain ⟨v7, e9, hF⟩ := bnd_e hF
            refine r_iinc (pc := 115) (w := v7) (k := 5) (L1 := [(7, .int v7), (5, .long v4), (3, .long v6), (8, .long v4), (0, .ref x0), (1, .long x1)]) dX7_liftAt_115 rfl (by rw [e9]; rfl) (by decide) rfl ?_
            clear e9
            refine r_goto (pc := 118) (tgt := 10) dX7_liftAt_118 rfl ?_
            exact T.sub (ih M x0 x1 v6 v4 v7 hF) [4] [4, 5, 2, 1, 0] rfl rfl
          · exact T.sub (hk60 M x0 x1 x3 x5 x7 v4 hF) [3] [1, 2, 3, 4, 5, 0] rfl rfl
set_option maxHeartbeats 4000000 in
theorem w_X7_liftAt_p101 {X : Option Cx} {G : EG} {res : Mem × Int64} : ∀ (M : Mem) (y0 : Int64), F_X7_liftAt_p101 M y0 = some res → T X (RJ G res) P_X7_liftAt M [] [] [.long y0] 101 := by
  intro M y0 hF
  unfold F_X7_liftAt_p101 at hF
  exact r_lret (pc := 101) dX7_liftAt_101 hF
set_option maxHeartbeats 4000000 in
theorem w_X7_liftAt_p60 {X : Option Cx} {G : EG} {res : Mem × Int64} : ∀ (M : Mem) (x0 : Nat) (x1 : Int64) (x3 : Int64) (x5 : Int64) (x7 : Int32) (x8 : Int64), F_X7_liftAt_p60 M x0 x1 x3 x5 x7 x8 = some res → T X (RJ G res) P_X7_liftAt M [(x0, 9)] [(0, .ref x0), (1, .long x1), (3, .long x3), (5, .long x5), (7, .int x7), (8, .long x8)] [] 60 := by
  intro M x0 x1 x3 x5 x7 x8 hF
  unfold F_X7_liftAt_p60 at hF
  refine r_iload (pc := 60) 4 dX7_liftAt_60 rfl ?_
  refine r_if_ne (pc := 62) (tgt := 76) dX7_liftAt_62 rfl hF (fun hF => ?_) (fun hF => ?_)
  · refine r_lload_n (pc := 76) 2 dX7_liftAt_76 rfl rfl ?_
    refine r_aload_n (pc := 77) 0 dX7_liftAt_77 rfl rfl ?_
    refine gf_X7_15 (pc := 78) (j := 0) rfl dX7_liftAt_78 ?_
    refine r_lr (by decide) hF (fun b1 hF => ?_)
    refine r_iload (pc := 81) 4 dX7_liftAt_81 rfl ?_
    refine r_iald (pc := 83) (j := 0) rfl dX7_liftAt_83 hF (fun hF => ?_)
    refine r_i2l (pc := 84) dX7_liftAt_84 ?_
    refine r_lload_n (pc := 85) 2 dX7_liftAt_85 rfl rfl ?_
    refine r_lsub (pc := 86) dX7_liftAt_86 ?_
    refine r_lload_n (pc := 87) 1 dX7_liftAt_87 rfl rfl ?_
    refine r_lload (pc := 88) 3 dX7_liftAt_88 rfl ?_
    refine r_lsub (pc := 90) dX7_liftAt_90 ?_
    refine r_lmul (pc := 91) dX7_liftAt_91 ?_
    refine r_lload (pc := 92) 5 dX7_liftAt_92 rfl ?_
    refine r_lload (pc := 94) 3 dX7_liftAt_94 rfl ?_
    refine r_lsub (pc := 96) dX7_liftAt_96 ?_
    refine r_callSN_J (pc := 97) (Py := P_X11_cut) (n := 2) (As := [.long ((((gA M b1 (ixn x7)).toInt64) - x3) * (x1 - x5)), .long (x8 - x5)]) (fun q e => k_X11_cut G _ ((((gA M b1 (ixn x7)).toInt64) - x3) * (x1 - x5)) (x8 - x5) q e) tw_450 tw_400 tw_60 tw_401 hd_X11_cut ⟨Nat.le_of_ble_eq_true rfl, Nat.le_of_ble_eq_true rfl⟩ rfl [] rfl rfl (Nat.le_of_ble_eq_true rfl) dX7_liftAt_97 hF (fun M2 r3 hF => ?_)
    refine r_ladd (pc := 100) dX7_liftAt_100 ?_
    exact T.sub ((w_X7_liftAt_p101) M2 (x3 + r3) hF) [] [] rfl rfl
  · refine r_aload_n (pc := 65) 0 dX7_liftAt_65 rfl rfl ?_
    refine gf_X7_15 (pc := 66) (j := 0) rfl dX7_liftAt_66 ?_
    refine r_lr (by decide) hF (fun b4 hF => ?_)
    refine r_iload (pc := 69) 4 dX7_liftAt_69 rfl ?_
    refine r_iald (pc := 71) (j := 0) rfl dX7_liftAt_71 hF (fun hF => ?_)
    refine r_i2l (pc := 72) dX7_liftAt_72 ?_
    refine r_goto (pc := 73) (tgt := 101) dX7_liftAt_73 rfl ?_
    exact T.sub ((w_X7_liftAt_p101) M ((gA M b4 (ixn x7)).toInt64) hF) [] [] rfl rfl
set_option maxHeartbeats 4000000 in
theorem w_X7_liftAt_p121 {X : Option Cx} {G : EG} {res : Mem × Int64} : ∀ (M : Mem) (x3 : Int64), F_X7_liftAt_p121 M x3 = some res → T X (RJ G res) P_X7_liftAt M [] [(3, .long x3)] [] 121 := by
  intro M x3 hF
  unfold F_X7_liftAt_p121 at hF
  refine r_lload_n (pc := 121) 0 dX7_liftAt_121 rfl rfl ?_
  exact r_lret (pc := 122) dX7_liftAt_122 hF
set_option maxHeartbeats 4000000 in
theorem w_X7_liftAt {X : Option Cx} {G : EG} {res : Mem × Int64} (M : Mem) (a0 : Nat) (a1 : Int64) (hF : F_X7_liftAt M a0 a1 = some res) : T X (RJ G res) P_X7_liftAt M [(a0, 9)] [(0, .ref a0), (1, .long a1)] [] 0 := by
  unfold F_X7_liftAt at hF
  refine r_ldc2 (pc := 0) (w := 100) tw_448 dX7_liftAt_0 ?_
  refine r_lstore_n (pc := 3) (L1 := [(3, .long ((100 : Int64))), (0, .ref a0), (1, .long a1)]) dX7_liftAt_3 rfl (by decide) rfl ?_
  refine r_lconst (pc := 4) (w := 0) dX7_liftAt_4 (by decide) ?_
  refine r_lstore (pc := 5) (L1 := [(5, .long ((0 : Int64))), (3, .long ((100 : Int64))), (0, .ref a0), (1, .long a1)]) dX7_liftAt_5 (by decide) rfl ?_
  refine r_iconst (pc := 7) (w := 0) dX7_liftAt_7 (by decide) ?_
  refine r_istore (pc := 8) (L1 := [(7, .int ((0 : Int32))), (5, .long ((0 : Int64))), (3, .long ((100 : Int64))), (0, .ref a0), (1, .long a1)]) dX7_liftAt_8 (by decide) rfl ?_
  exact T.sub ((w_X7_liftAt_p10 (w_X7_liftAt_p60) (w_X7_liftAt_p121) FU) M a0 a1 (100 : Int64) (0 : Int64) (0 : Int32) hF) [0] [3, 4, 2, 1, 0] rfl rfl
theorem k_X7_liftAt (G : EG) (M : Mem) (a0 : Nat) (a1 : Int64) (q : Mem × Int64) (h : F_X7_liftAt M a0 a1 = some q) : Kt yX7_liftAt P_X7_liftAt M [(a0, 9)] [.ref a0, .long a1] (RJ G q) := Kt.of (by decide +kernel) rfl (Nat.le_of_ble_eq_true rfl) rfl (fun X hz => w_X7_liftAt M a0 a1 h)
set_option maxHeartbeats 4000000 in
theorem w_X1_meet_p221 {X : Option Cx} {G : EG} {res : Mem × Unit} {k25 : Mem → Nat → Option Nat → Int64 → Int64 → Int32 → Option (Mem × Unit)} (hk25 : ∀ (M : Mem) (x0 : Nat) (x3 : Option Nat) (x4 : Int64) (x6 : Int64) (x8 : Int32), k25 M x0 x3 x4 x6 x8 = some res → T X (RV G res) P_X1_meet M [(x0, 3)] [(0, .ref x0), (3, va_rf x3), (4, .long x4), (6, .long x6), (8, .int x8)] [] 25) : ∀ (M : Mem) (x0 : Nat) (x3 : Option Nat) (x4 : Int64) (x6 : Int64) (x8 : Int32), F_X1_meet_p221 k25 M x0 x3 x4 x6 x8 = some res → T X (RV G res) P_X1_meet M [(x0, 3)] [(0, .ref x0), (3, va_rf x3), (4, .long x4), (6, .long x6), (8, .int x8)] [] 221 := by
  intro M x0 x3 x4 x6 x8 hF
  unfold F_X1_meet_p221 at hF
  obtain ⟨v1, e9, hF⟩ := bnd_e hF
  refine r_iinc (pc := 221) (w := v1) (k := 4) (L1 := [(8, .int v1), (0, .ref x0), (3, va_rf x3), (4, .long x4), (6, .long x6)]) dX1_meet_221 rfl (by rw [e9]; rfl) (by decide) rfl ?_
  clear e9
  refine r_goto (pc := 224) (tgt := 25) dX1_meet_224 rfl ?_
  exact T.sub (hk25 M x0 x3 x4 x6 v1 hF) [0] [1, 2, 3, 4, 0] rfl rfl
set_option maxHeartbeats 4000000 in
theorem w_X1_meet_p25 {X : Option Cx} {G : EG} {res : Mem × Unit} {k227 : Mem → Nat → Int64 → Int64 → Option (Mem × Unit)} (hk227 : ∀ (M : Mem) (x0 : Nat) (x4 : Int64) (x6 : Int64), k227 M x0 x4 x6 = some res → T X (RV G res) P_X1_meet M [(x0, 3)] [(0, .ref x0), (4, .long x4), (6, .long x6)] [] 227) : ∀ (n : Nat) (M : Mem) (x0 : Nat) (x3 : Option Nat) (x4 : Int64) (x6 : Int64) (x8 : Int32), F_X1_meet_p25 k227 n M x0 x3 x4 x6 x8 = some res → T X (RV G res) P_X1_meet M [(x0, 3)] [(0, .ref x0), (3, va_rf x3), (4, .long x4), (6, .long x6), (8, .int x8)] [] 25 := by
  intro n
  induction n with
  | zero =>
    intro M x0 x3 x4 x6 x8 hF
    cases hF
  | succ n ih =>
    intro M x0 x3 x4 x6 x8 hF
    unfold F_X1_meet_p25 at hF
    refine r_iload (pc := 25) 4 dX1_meet_25 rfl ?_
    refine r_aload_n (pc := 27) 0 dX1_meet_27 rfl rfl ?_
    refine gf_X1_12 (pc := 28) (j := 0) rfl dX1_meet_28 ?_
    refine r_lr (by decide) hF (fun b1 hF => ?_)
    refine r_callV_I (pc := 31) (Py := P_Jx4a65c_size_8abf5) (n := 0) (As := []) (fun q e => k_Jx4a65c_size_8abf5 G _ b1 q e) (c := 0) (Tb := TJx4a65c) (N := 3) rfl (by decide) (j0 := 0) rfl tw_375 tw_344 tw_345 tw_64 tw_346 hd_Jx4a65c_size_8abf5 ⟨Nat.le_of_ble_eq_true rfl, Nat.le_of_ble_eq_true rfl⟩ rfl [0] rfl rfl (Nat.le_of_ble_eq_true rfl) dX1_meet_31 hF (fun M2 r3 hF => ?_)
    refine r_icmp_ge (pc := 34) (tgt := 227) dX1_meet_34 rfl hF (fun hF => ?_) (fun hF => ?_)
    · exact T.sub (hk227 M2 x0 x4 x6 hF) [1] [0, 2, 3] rfl rfl
    · refine r_lload (pc := 37) 2 dX1_meet_37 rfl ?_
      refine r_lconst (pc := 39) (w := 0) dX1_meet_39 (by decide) ?_
      refine r_lcmp (pc := 40) dX1_meet_40 ?_
      refine r_if_le (pc := 41) (tgt := 227) dX1_meet_41 rfl hF (fun hF => ?_) (fun hF => ?_)
      · exact T.sub (hk227 M2 x0 x4 x6 hF) [1] [0, 2, 3] rfl rfl
      · refine r_aload_n (pc := 44) 0 dX1_meet_44 rfl rfl ?_
        refine gf_X1_12 (pc := 45) (j := 1) rfl dX1_meet_45 ?_
        refine r_lr (by decide) hF (fun b4 hF => ?_)
        refine r_iload (pc := 48) 4 dX1_meet_48 rfl ?_
        refine r_callV_R (pc := 50) (Py := P_Jx4a65c_get_915e3) (n := 1) (As := [.int x8]) (fun q e => k_Jx4a65c_get_915e3 G _ b4 x8 q e) (c := 0) (Tb := TJx4a65c) (N := 3) rfl (by decide) (j0 := 0) rfl tw_376 tw_348 tw_349 tw_64 tw_350 hd_Jx4a65c_get_915e3 ⟨Nat.le_of_ble_eq_true rfl, Nat.le_of_ble_eq_true rfl⟩ rfl [0] rfl rfl (Nat.le_of_ble_eq_true rfl) dX1_meet_50 hF (fun M5 r6 hF => ?_)
        refine r_lr (by decide) hF (fun b7 hF => ?_)
        refine r_cast (pc := 53) (c := 1) (Tb := TX0) (N := 11) rfl (by decide) (j := 0) rfl tw_377 dX1_meet_53 ?_
        refine r_astore (pc := 56) (L1 := [(9, .ref b7), (0, .ref x0), (3, va_rf x3), (4, .long x4), (6, .long x6), (8, .int x8)]) dX1_meet_56 (by decide) rfl ?_
        refine r_aload (pc := 58) 0 dX1_meet_58 rfl ?_
        refine gf_X1_99 (pc := 60) (j := 0) rfl dX1_meet_60 ?_
        refine r_if_eq (pc := 63) (tgt := 221) dX1_meet_63 rfl hF (fun hF => ?_) (fun hF => ?_)
        · exact T.sub ((w_X1_meet_p221 ih) M5 x0 x3 x4 x6 x8 hF) [3] [1, 2, 3, 4, 5] rfl rfl
        · refine r_aload (pc := 66) 0 dX1_meet_66 rfl ?_
          refine r_callV_I (pc := 68) (Py := P_X0_isFrozen) (n := 0) (As := []) (fun q e => k_X0_isFrozen G _ b7 q e) (c := 1) (Tb := TX0) (N := 11) rfl (by decide) (j0 := 0) rfl tw_440 tw_441 tw_442 tw_74 tw_443 hd_X0_isFrozen ⟨Nat.le_of_ble_eq_true rfl, Nat.le_of_ble_eq_true rfl⟩ rfl [0] rfl rfl (Nat.le_of_ble_eq_true rfl) dX1_meet_68 hF (fun M8 r9 hF => ?_)
          refine r_if_ne (pc := 71) (tgt := 221) dX1_meet_71 rfl hF (fun hF => ?_) (fun hF => ?_)
          · exact T.sub ((w_X1_meet_p221 ih) M8 x0 x3 x4 x6 x8 hF) [3] [1, 2, 3, 4, 5] rfl rfl
          · refine r_aload_n (pc := 74) 1 dX1_meet_74 rfl rfl ?_
            refine gf_X1_26 (pc := 75) (j := 3) rfl dX1_meet_75 ?_
            refine r_lr (by decide) hF (fun b10 hF => ?_)
            refine r_aload (pc := 78) 0 dX1_meet_78 rfl ?_
            refine gf_X1_113 (pc := 80) (j := 1) rfl dX1_meet_80 ?_
            refine r_lr (by decide) hF (fun b11 hF => ?_)
            refine gf_X1_127 (pc := 83) (j := 0) rfl dX1_meet_83 ?_
            refine r_callV_J (pc := 86) (Py := P_X7_liftAt) (n := 1) (As := [.long (gJ M8 503 b11)]) (fun q e => k_X7_liftAt G _ b10 (gJ M8 503 b11) q e) (c := 8) (Tb := TX7) (N := 3) rfl (by decide) (j0 := 1) rfl tw_444 tw_445 tw_446 tw_65 tw_447 hd_X7_liftAt ⟨Nat.le_of_ble_eq_true rfl, Nat.le_of_ble_eq_true rfl⟩ rfl [1] rfl rfl (Nat.le_of_ble_eq_true rfl) dX1_meet_86 hF (fun M12 r13 hF => ?_)
            refine r_lstore (pc := 89) (L1 := [(10, .long r13), (9, .ref b7), (0, .ref x0), (3, va_rf x3), (4, .long x4), (6, .long x6), (8, .int x8)]) dX1_meet_89 (by decide) rfl ?_
            refine r_ldc2 (pc := 91) (w := 100) tw_451 dX1_meet_91 ?_
            refine r_lload (pc := 94) 4 dX1_meet_94 rfl ?_
            refine r_lmul (pc := 96) dX1_meet_96 ?_
            refine r_ldc2 (pc := 97) (w := 99) tw_452 dX1_meet_97 ?_
            refine r_ladd (pc := 100) dX1_meet_100 ?_
            refine r_lload (pc := 101) 0 dX1_meet_101 rfl ?_
            refine r_callSN_J (pc := 103) (Py := P_X11_cut) (n := 2) (As := [.long (((100 : Int64) * x4) + (99 : Int64)), .long r13]) (fun q e => k_X11_cut G _ (((100 : Int64) * x4) + (99 : Int64)) r13 q e) tw_453 tw_400 tw_60 tw_401 hd_X11_cut ⟨Nat.le_of_ble_eq_true rfl, Nat.le_of_ble_eq_true rfl⟩ rfl [] rfl rfl (Nat.le_of_ble_eq_true rfl) dX1_meet_103 hF (fun M14 r15 hF => ?_)
            refine r_lstore (pc := 106) (L1 := [(12, .long r15), (10, .long r13), (9, .ref b7), (0, .ref x0), (3, va_rf x3), (4, .long x4), (6, .long x6), (8, .int x8)]) dX1_meet_106 (by decide) rfl ?_
            refine r_lconst (pc := 108) (w := 0) dX1_meet_108 (by decide) ?_
            refine r_aload (pc := 109) 2 dX1_meet_109 rfl ?_
            refine gf_X1_113 (pc := 111) (j := 2) rfl dX1_meet_111 ?_
            refine r_lr (by decide) hF (fun b16 hF => ?_)
            refine gf_X1_117 (pc := 114) (j := 0) rfl dX1_meet_114 ?_
            refine r_mmaxl (pc := 117) tw_454 tw_455 tw_71 tw_456 ⟨Nat.le_of_ble_eq_true rfl, Nat.le_of_ble_eq_true rfl⟩ (Nat.le_of_ble_eq_true rfl) dX1_meet_117 ?_
            refine r_gJ (pc := 120) hF (fun v17 hF => ?_)
            refine r_lstore (pc := 120) (L1 := [(14, .long v17), (12, .long r15), (10, .long r13), (9, .ref b7), (0, .ref x0), (3, va_rf x3), (4, .long x4), (6, .long x6), (8, .int x8)]) dX1_meet_120 (by decide) rfl ?_
            refine r_aload_n (pc := 122) 4 dX1_meet_122 rfl rfl ?_
            refine gf_X1_30 (pc := 123) (j := 6) rfl dX1_meet_123 ?_
            refine r_lr (by decide) hF (fun b18 hF => ?_)
            refine r_aloado_n (pc := 126) 5 dX1_meet_126 rfl rfl ?_
            refine r_aload (pc := 127) 3 dX1_meet_127 rfl ?_
            refine r_callV_J (pc := 129) (Py := P_X6_worth) (n := 2) (As := [va_rf x3, .ref b7]) (fun q e => k_X6_worth G _ b18 x3 b7 q e) (c := 7) (Tb := TX6) (N := 3) rfl (by decide) (j0 := 0) rfl tw_414 tw_415 tw_416 tw_66 tw_417 hd_X6_worth ⟨Nat.le_of_ble_eq_true rfl, Nat.le_of_ble_eq_true rfl⟩ rfl [0, 4] rfl rfl (Nat.le_of_ble_eq_true rfl) dX1_meet_129 hF (fun M19 r20 hF => ?_)
            refine r_lload (pc := 132) 0 dX1_meet_132 rfl ?_
            refine r_lload (pc := 134) 1 dX1_meet_134 rfl ?_
            refine r_mminl (pc := 136) tw_433 tw_434 tw_71 tw_435 ⟨Nat.le_of_ble_eq_true rfl, Nat.le_of_ble_eq_true rfl⟩ (Nat.le_of_ble_eq_true rfl) dX1_meet_136 ?_
            refine r_mminl (pc := 139) tw_433 tw_434 tw_71 tw_435 ⟨Nat.le_of_ble_eq_true rfl, Nat.le_of_ble_eq_true rfl⟩ (Nat.le_of_ble_eq_true rfl) dX1_meet_139 ?_
            refine r_gJ (pc := 142) hF (fun v21 hF => ?_)
            refine r_lstore (pc := 142) (L1 := [(16, .long v21), (14, .long v17), (12, .long r15), (10, .long r13), (9, .ref b7), (0, .ref x0), (3, va_rf x3), (4, .long x4), (6, .long x6), (8, .int x8)]) dX1_meet_142 (by decide) rfl ?_
            refine r_lload (pc := 144) 0 dX1_meet_144 rfl ?_
            refine r_lload (pc := 146) 3 dX1_meet_146 rfl ?_
            refine r_lmul (pc := 148) dX1_meet_148 ?_
            refine r_ldc2 (pc := 149) (w := 100) tw_451 dX1_meet_149 ?_
            refine r_ldivc (pc := 152) dX1_meet_152 (by decide) ?_
            refine r_gJ (pc := 153) hF (fun v22 hF => ?_)
            refine r_lstore (pc := 153) (L1 := [(18, .long v22), (16, .long v21), (14, .long v17), (12, .long r15), (10, .long r13), (9, .ref b7), (0, .ref x0), (3, va_rf x3), (4, .long x4), (6, .long x6), (8, .int x8)]) dX1_meet_153 (by decide) rfl ?_
            refine r_aload (pc := 155) 5 dX1_meet_155 rfl ?_
            refine gf_X1_113 (pc := 157) (j := 4) rfl dX1_meet_157 ?_
            refine r_lr (by decide) hF (fun b23 hF => ?_)
            refine r_dup (pc := 160) dX1_meet_160 rfl ?_
            refine gf_X1_117 (pc := 161) (j := 0) rfl dX1_meet_161 ?_
            refine r_lload (pc := 164) 1 dX1_meet_164 rfl ?_
            refine r_lsub (pc := 166) dX1_meet_166 ?_
            refine pf_X1_117 (pc := 167) (j := 0) rfl dX1_meet_167 hF (fun M24 hF => ?_)
            refine r_aload (pc := 170) 5 dX1_meet_170 rfl ?_
            refine r_dup (pc := 172) dX1_meet_172 rfl ?_
            refine gf_X1_146 (pc := 173) (j := 5) rfl dX1_meet_173 ?_
            refine r_lload (pc := 176) 1 dX1_meet_176 rfl ?_
            refine r_ladd (pc := 178) dX1_meet_178 ?_
            refine pf_X1_146 (pc := 179) (j := 5) rfl dX1_meet_179 hF (fun M25 hF => ?_)
            refine r_lload (pc := 182) 8 dX1_meet_182 rfl ?_
            refine r_lload (pc := 184) 0 dX1_meet_184 rfl ?_
            refine r_lsub (pc := 186) dX1_meet_186 ?_
            refine r_gJ (pc := 187) hF (fun v26 hF => ?_)
            refine r_lstore (pc := 187) (L1 := [(4, .long v26), (18, .long v22), (16, .long v21), (14, .long v17), (12, .long r15), (10, .long r13), (9, .ref b7), (0, .ref x0), (3, va_rf x3), (6, .long x6), (8, .int x8)]) dX1_meet_187 (by decide) (by cases x3 <;> rfl) ?_
            refine r_lload (pc := 189) 9 dX1_meet_189 rfl ?_
            refine r_lload (pc := 191) 1 dX1_meet_191 rfl ?_
            refine r_lload (pc := 193) 2 dX1_meet_193 rfl ?_
            refine r_lsub (pc := 195) dX1_meet_195 ?_
            refine r_ladd (pc := 196) dX1_meet_196 ?_
            refine r_gJ (pc := 197) hF (fun v27 hF => ?_)
            refine r_lstore (pc := 197) (L1 := [(6, .long v27), (4, .long v26), (18, .long v22), (16, .long v21), (14, .long v17), (12, .long r15), (10, .long r13), (9, .ref b7), (0, .ref x0), (3, va_rf x3), (8, .int x8)]) dX1_meet_197 (by decide) rfl ?_
            refine r_aload_n (pc := 199) 8 dX1_meet_199 rfl rfl ?_
            refine gf_X1_18 (pc := 200) (j := 8) rfl dX1_meet_200 ?_
            refine r_lr (by decide) hF (fun b28 hF => ?_)
            refine r_iconst (pc := 203) (w := 2) dX1_meet_203 (by decide) ?_
            refine r_dup2 (pc := 204) dX1_meet_204 rfl rfl ?_
            refine r_lald (pc := 205) (j := 0) rfl dX1_meet_205 hF (fun hF => ?_)
            refine r_lload (pc := 206) 3 dX1_meet_206 rfl ?_
            refine r_ladd (pc := 208) dX1_meet_208 ?_
            refine r_last (pc := 209) (j := 0) rfl dX1_meet_209 hF (fun M29 hF => ?_)
            refine r_aload_n (pc := 210) 8 dX1_meet_210 rfl rfl ?_
            refine gf_X1_18 (pc := 211) (j := 9) rfl dX1_meet_211 ?_
            refine r_lr (by decide) hF (fun b30 hF => ?_)
            refine r_iconst (pc := 214) (w := 3) dX1_meet_214 (by decide) ?_
            refine r_dup2 (pc := 215) dX1_meet_215 rfl rfl ?_
            refine r_lald (pc := 216) (j := 0) rfl dX1_meet_216 hF (fun hF => ?_)
            refine r_lload (pc := 217) 2 dX1_meet_217 rfl ?_
            refine r_ladd (pc := 219) dX1_meet_219 ?_
            refine r_last (pc := 220) (j := 0) rfl dX1_meet_220 hF (fun M31 hF => ?_)
            exact T.sub ((w_X1_meet_p221 ih) M31 x0 x3 v26 v27 x8 hF) [10] [8, 9, 1, 0, 10] rfl rfl
set_option maxHeartbeats 4000000 in
theorem w_X1_meet_p227 {X : Option Cx} {G : EG} {res : Mem × Unit} : ∀ (M : Mem) (x0 : Nat) (x4 : Int64) (x6 : Int64), F_X1_meet_p227 M x0 x4 x6 = some res → T X (RV G res) P_X1_meet M [(x0, 3)] [(0, .ref x0), (4, .long x4), (6, .long x6)] [] 227 := by
  intro M x0 x4 x6 hF
  unfold F_X1_meet_p227 at hF
  refine r_aload_n (pc := 227) 0 dX1_meet_227 rfl rfl ?_
  refine gf_X1_18 (pc := 228) (j := 0) rfl dX1_meet_228 ?_
  refine r_lr (by decide) hF (fun b1 hF => ?_)
  refine r_iconst (pc := 231) (w := 4) dX1_meet_231 (by decide) ?_
  refine r_dup2 (pc := 232) dX1_meet_232 rfl rfl ?_
  refine r_lald (pc := 233) (j := 0) rfl dX1_meet_233 hF (fun hF => ?_)
  refine r_lload (pc := 234) 2 dX1_meet_234 rfl ?_
  refine r_ladd (pc := 236) dX1_meet_236 ?_
  refine r_last (pc := 237) (j := 0) rfl dX1_meet_237 hF (fun M2 hF => ?_)
  refine r_aload_n (pc := 238) 0 dX1_meet_238 rfl rfl ?_
  refine gf_X1_18 (pc := 239) (j := 1) rfl dX1_meet_239 ?_
  refine r_lr (by decide) hF (fun b3 hF => ?_)
  refine r_iconst (pc := 242) (w := 5) dX1_meet_242 (by decide) ?_
  refine r_dup2 (pc := 243) dX1_meet_243 rfl rfl ?_
  refine r_lald (pc := 244) (j := 0) rfl dX1_meet_244 hF (fun hF => ?_)
  refine r_lload (pc := 245) 1 dX1_meet_245 rfl ?_
  refine r_ladd (pc := 247) dX1_meet_247 ?_
  refine r_last (pc := 248) (j := 0) rfl dX1_meet_248 hF (fun M4 hF => ?_)
  refine r_aload_n (pc := 249) 0 dX1_meet_249 rfl rfl ?_
  refine gf_X1_18 (pc := 250) (j := 2) rfl dX1_meet_250 ?_
  refine r_lr (by decide) hF (fun b5 hF => ?_)
  refine r_bipush (pc := 253) (w := 6) dX1_meet_253 (by decide) ?_
  refine r_dup2 (pc := 255) dX1_meet_255 rfl rfl ?_
  refine r_lald (pc := 256) (j := 0) rfl dX1_meet_256 hF (fun hF => ?_)
  refine r_lload (pc := 257) 2 dX1_meet_257 rfl ?_
  refine r_lload (pc := 259) 1 dX1_meet_259 rfl ?_
  refine r_ladd (pc := 261) dX1_meet_261 ?_
  refine r_aload_n (pc := 262) 0 dX1_meet_262 rfl rfl ?_
  refine gf_X1_22 (pc := 263) (j := 3) rfl dX1_meet_263 ?_
  refine r_lr (by decide) hF (fun b6 hF => ?_)
  refine gf_X1_149 (pc := 266) (j := 0) rfl dX1_meet_266 ?_
  refine r_lr (by decide) hF (fun b7 hF => ?_)
  refine r_aload_n (pc := 269) 0 dX1_meet_269 rfl rfl ?_
  refine gf_X1_44 (pc := 270) (j := 5) rfl dX1_meet_270 ?_
  refine r_callSN_I (pc := 273) (Py := P_X11_inRound) (n := 2) (As := [.ref b7, .int (gI M4 206 x0)]) (fun q e => k_X11_inRound G _ b7 (gI M4 206 x0) q e) tw_413 tw_335 tw_60 tw_336 hd_X11_inRound ⟨Nat.le_of_ble_eq_true rfl, Nat.le_of_ble_eq_true rfl⟩ rfl [0] rfl rfl (Nat.le_of_ble_eq_true rfl) dX1_meet_273 hF (fun M8 r9 hF => ?_)
  refine r_i2l (pc := 276) dX1_meet_276 ?_
  refine r_lmul (pc := 277) dX1_meet_277 ?_
  refine r_ldc2 (pc := 278) (w := 100) tw_451 dX1_meet_278 ?_
  refine r_ldivc (pc := 281) dX1_meet_281 (by decide) ?_
  refine r_ladd (pc := 282) dX1_meet_282 ?_
  refine r_last (pc := 283) (j := 2) rfl dX1_meet_283 hF (fun M10 hF => ?_)
  exact r_vret (pc := 284) dX1_meet_284 hF
set_option maxHeartbeats 4000000 in
theorem w_X1_meet {X : Option Cx} {G : EG} {res : Mem × Unit} (M : Mem) (a0 : Nat) (a1 : Int64) (hF : F_X1_meet M a0 a1 = some res) : T X (RV G res) P_X1_meet M [(a0, 3)] [(0, .ref a0), (1, .long a1)] [] 0 := by
  unfold F_X1_meet at hF
  refine r_aload_n (pc := 0) 0 dX1_meet_0 rfl rfl ?_
  refine gf_X1_30 (pc := 1) (j := 0) rfl dX1_meet_1 ?_
  refine r_lr (by decide) hF (fun b1 hF => ?_)
  refine r_iconst (pc := 4) (w := 0) dX1_meet_4 (by decide) ?_
  refine r_aload_n (pc := 5) 0 dX1_meet_5 rfl rfl ?_
  refine gf_X1_44 (pc := 6) (j := 1) rfl dX1_meet_6 ?_
  refine r_bipush (pc := 9) (w := 24) dX1_meet_9 (by decide) ?_
  refine r_idivc (pc := 11) dX1_meet_11 (by decide) ?_
  refine r_callV_R (pc := 12) (Py := P_X6_inForce) (n := 2) (As := [.int ((0 : Int32)), .int ((gI M 206 a0) / (24 : Int32))]) (fun q e => k_X6_inForce G _ b1 (0 : Int32) ((gI M 206 a0) / (24 : Int32)) q e) (c := 7) (Tb := TX6) (N := 3) rfl (by decide) (j0 := 0) rfl tw_406 tw_407 tw_408 tw_66 tw_409 hd_X6_inForce ⟨Nat.le_of_ble_eq_true rfl, Nat.le_of_ble_eq_true rfl⟩ rfl [0] rfl rfl (Nat.le_of_ble_eq_true rfl) dX1_meet_12 hF (fun M2 r3 hF => ?_)
  refine r_astoreo_n (pc := 15) (r := r3) (L1 := [(3, va_rf r3), (0, .ref a0), (1, .long a1)]) dX1_meet_15 rfl (by decide) rfl ?_
  refine r_lload_n (pc := 16) 2 dX1_meet_16 rfl rfl ?_
  refine r_lstore (pc := 17) (L1 := [(4, .long a1), (3, va_rf r3), (0, .ref a0), (1, .long a1)]) dX1_meet_17 (by decide) (by cases r3 <;> rfl) ?_
  refine r_lconst (pc := 19) (w := 0) dX1_meet_19 (by decide) ?_
  refine r_lstore (pc := 20) (L1 := [(6, .long ((0 : Int64))), (4, .long a1), (3, va_rf r3), (0, .ref a0), (1, .long a1)]) dX1_meet_20 (by decide) rfl ?_
  refine r_iconst (pc := 22) (w := 0) dX1_meet_22 (by decide) ?_
  refine r_istore (pc := 23) (L1 := [(8, .int ((0 : Int32))), (6, .long ((0 : Int64))), (4, .long a1), (3, va_rf r3), (0, .ref a0), (1, .long a1)]) dX1_meet_23 (by decide) rfl ?_
  exact T.sub ((w_X1_meet_p25 (w_X1_meet_p227) FU) M2 a0 r3 a1 (0 : Int64) (0 : Int32) hF) [1] [4, 3, 2, 1, 0] rfl rfl
theorem k_X1_meet (G : EG) (M : Mem) (a0 : Nat) (a1 : Int64) (q : Mem × Unit) (h : F_X1_meet M a0 a1 = some q) : Kt yX1_meet P_X1_meet M [(a0, 3)] [.ref a0, .long a1] (RV G q) := Kt.of (by decide +kernel) rfl (Nat.le_of_ble_eq_true rfl) rfl (fun X hz => w_X1_meet M a0 a1 h)
set_option maxHeartbeats 4000000 in
theorem w_X1_takeSun_p122 {X : Option Cx} {G : EG} {res : Mem × Unit} {k35 : Mem → Nat → Option Nat → Int64 → Int32 → Option (Mem × Unit)} (hk35 : ∀ (M : Mem) (x0 : Nat) (x1 : Option Nat) (x2 : Int64) (x4 : Int32), k35 M x0 x1 x2 x4 = some res → T X (RV G res) P_X1_takeSun M [(x0, 3)] [(0, .ref x0), (1, va_rf x1), (2, .long x2), (4, .int x4)] [] 35) : ∀ (M : Mem) (x0 : Nat) (x1 : Option Nat) (x2 : Int64) (x4 : Int32), F_X1_takeSun_p122 k35 M x0 x1 x2 x4 = some res → T X (RV G res) P_X1_takeSun M [(x0, 3)] [(0, .ref x0), (1, va_rf x1), (2, .long x2), (4, .int x4)] [] 122 := by
  intro M x0 x1 x2 x4 hF
  unfold F_X1_takeSun_p122 at hF
  obtain ⟨v1, e9, hF⟩ := bnd_e hF
  refine r_iinc (pc := 122) (w := v1) (k := 3) (L1 := [(4, .int v1), (0, .ref x0), (1, va_rf x1), (2, .long x2)]) dX1_takeSun_122 rfl (by rw [e9]; rfl) (by decide) rfl ?_
  clear e9
  refine r_goto (pc := 125) (tgt := 35) dX1_takeSun_125 rfl ?_
  exact T.sub (hk35 M x0 x1 x2 v1 hF) [0] [1, 2, 3, 0] rfl rfl
set_option maxHeartbeats 4000000 in
theorem w_X1_takeSun_p35 {X : Option Cx} {G : EG} {res : Mem × Unit} {k128 : Mem → Nat → Int64 → Option (Mem × Unit)} (hk128 : ∀ (M : Mem) (x0 : Nat) (x2 : Int64), k128 M x0 x2 = some res → T X (RV G res) P_X1_takeSun M [(x0, 3)] [(0, .ref x0), (2, .long x2)] [] 128) : ∀ (n : Nat) (M : Mem) (x0 : Nat) (x1 : Option Nat) (x2 : Int64) (x4 : Int32), F_X1_takeSun_p35 k128 n M x0 x1 x2 x4 = some res → T X (RV G res) P_X1_takeSun M [(x0, 3)] [(0, .ref x0), (1, va_rf x1), (2, .long x2), (4, .int x4)] [] 35 := by
  intro n
  induction n with
  | zero =>
    intro M x0 x1 x2 x4 hF
    cases hF
  | succ n ih =>
    intro M x0 x1 x2 x4 hF
    unfold F_X1_takeSun_p35 at hF
    refine r_iload (pc := 35) 3 dX1_takeSun_35 rfl ?_
    refine r_aload_n (pc := 37) 0 dX1_takeSun_37 rfl rfl ?_
    refine gf_X1_12 (pc := 38) (j := 0) rfl dX1_takeSun_38 ?_
    refine r_lr (by decide) hF (fun b1 hF => ?_)
    refine r_callV_I (pc := 41) (Py := P_Jx4a65c_size_8abf5) (n := 0) (As := []) (fun q e => k_Jx4a65c_size_8abf5 G _ b1 q e) (c := 0) (Tb := TJx4a65c) (N := 3) rfl (by decide) (j0 := 0) rfl tw_375 tw_344 tw_345 tw_64 tw_346 hd_Jx4a65c_size_8abf5 ⟨Nat.le_of_ble_eq_true rfl, Nat.le_of_ble_eq_true rfl⟩ rfl [0] rfl rfl (Nat.le_of_ble_eq_true rfl) dX1_takeSun_41 hF (fun M2 r3 hF => ?_)
    refine r_icmp_ge (pc := 44) (tgt := 128) dX1_takeSun_44 rfl hF (fun hF => ?_) (fun hF => ?_)
    · exact T.sub (hk128 M2 x0 x2 hF) [1] [0, 2] rfl rfl
    · refine r_lload_n (pc := 47) 2 dX1_takeSun_47 rfl rfl ?_
      refine r_lconst (pc := 48) (w := 0) dX1_takeSun_48 (by decide) ?_
      refine r_lcmp (pc := 49) dX1_takeSun_49 ?_
      refine r_if_le (pc := 50) (tgt := 128) dX1_takeSun_50 rfl hF (fun hF => ?_) (fun hF => ?_)
      · exact T.sub (hk128 M2 x0 x2 hF) [1] [0, 2] rfl rfl
      · refine r_aload_n (pc := 53) 0 dX1_takeSun_53 rfl rfl ?_
        refine gf_X1_12 (pc := 54) (j := 1) rfl dX1_takeSun_54 ?_
        refine r_lr (by decide) hF (fun b4 hF => ?_)
        refine r_iload (pc := 57) 3 dX1_takeSun_57 rfl ?_
        refine r_callV_R (pc := 59) (Py := P_Jx4a65c_get_915e3) (n := 1) (As := [.int x4]) (fun q e => k_Jx4a65c_get_915e3 G _ b4 x4 q e) (c := 0) (Tb := TJx4a65c) (N := 3) rfl (by decide) (j0 := 0) rfl tw_376 tw_348 tw_349 tw_64 tw_350 hd_Jx4a65c_get_915e3 ⟨Nat.le_of_ble_eq_true rfl, Nat.le_of_ble_eq_true rfl⟩ rfl [0] rfl rfl (Nat.le_of_ble_eq_true rfl) dX1_takeSun_59 hF (fun M5 r6 hF => ?_)
        refine r_lr (by decide) hF (fun b7 hF => ?_)
        refine r_cast (pc := 62) (c := 1) (Tb := TX0) (N := 11) rfl (by decide) (j := 0) rfl tw_377 dX1_takeSun_62 ?_
        refine r_astore (pc := 65) (L1 := [(5, .ref b7), (0, .ref x0), (1, va_rf x1), (2, .long x2), (4, .int x4)]) dX1_takeSun_65 (by decide) rfl ?_
        refine r_aload (pc := 67) 0 dX1_takeSun_67 rfl ?_
        refine gf_X1_99 (pc := 69) (j := 0) rfl dX1_takeSun_69 ?_
        refine r_if_eq (pc := 72) (tgt := 122) dX1_takeSun_72 rfl hF (fun hF => ?_) (fun hF => ?_)
        · exact T.sub ((w_X1_takeSun_p122 ih) M5 x0 x1 x2 x4 hF) [3] [1, 2, 3, 4] rfl rfl
        · refine r_lload_n (pc := 75) 3 dX1_takeSun_75 rfl rfl ?_
          refine r_aload_n (pc := 76) 1 dX1_takeSun_76 rfl rfl ?_
          refine gf_X1_30 (pc := 77) (j := 3) rfl dX1_takeSun_77 ?_
          refine r_lr (by decide) hF (fun b8 hF => ?_)
          refine r_aloado_n (pc := 80) 2 dX1_takeSun_80 rfl rfl ?_
          refine r_aload (pc := 81) 0 dX1_takeSun_81 rfl ?_
          refine r_callV_J (pc := 83) (Py := P_X6_worth) (n := 2) (As := [va_rf x1, .ref b7]) (fun q e => k_X6_worth G _ b8 x1 b7 q e) (c := 7) (Tb := TX6) (N := 3) rfl (by decide) (j0 := 0) rfl tw_414 tw_415 tw_416 tw_66 tw_417 hd_X6_worth ⟨Nat.le_of_ble_eq_true rfl, Nat.le_of_ble_eq_true rfl⟩ rfl [0, 1] rfl rfl (Nat.le_of_ble_eq_true rfl) dX1_takeSun_83 hF (fun M9 r10 hF => ?_)
          refine r_mminl (pc := 86) tw_433 tw_434 tw_71 tw_435 ⟨Nat.le_of_ble_eq_true rfl, Nat.le_of_ble_eq_true rfl⟩ (Nat.le_of_ble_eq_true rfl) dX1_takeSun_86 ?_
          refine r_gJ (pc := 89) hF (fun v11 hF => ?_)
          refine r_lstore (pc := 89) (L1 := [(6, .long v11), (5, .ref b7), (0, .ref x0), (1, va_rf x1), (2, .long x2), (4, .int x4)]) dX1_takeSun_89 (by decide) rfl ?_
          refine r_aload (pc := 91) 1 dX1_takeSun_91 rfl ?_
          refine gf_X1_113 (pc := 93) (j := 1) rfl dX1_takeSun_93 ?_
          refine r_lr (by decide) hF (fun b12 hF => ?_)
          refine r_dup (pc := 96) dX1_takeSun_96 rfl ?_
          refine gf_X1_117 (pc := 97) (j := 0) rfl dX1_takeSun_97 ?_
          refine r_lload (pc := 100) 0 dX1_takeSun_100 rfl ?_
          refine r_ladd (pc := 102) dX1_takeSun_102 ?_
          refine pf_X1_117 (pc := 103) (j := 0) rfl dX1_takeSun_103 hF (fun M13 hF => ?_)
          refine r_lload_n (pc := 106) 4 dX1_takeSun_106 rfl rfl ?_
          refine r_lload (pc := 107) 0 dX1_takeSun_107 rfl ?_
          refine r_lsub (pc := 109) dX1_takeSun_109 ?_
          refine r_gJ (pc := 110) hF (fun v14 hF => ?_)
          refine r_lstore_n (pc := 110) (L1 := [(2, .long v14), (6, .long v11), (5, .ref b7), (0, .ref x0), (1, va_rf x1), (4, .int x4)]) dX1_takeSun_110 rfl (by decide) (by cases x1 <;> rfl) ?_
          refine r_aload_n (pc := 111) 3 dX1_takeSun_111 rfl rfl ?_
          refine gf_X1_18 (pc := 112) (j := 5) rfl dX1_takeSun_112 ?_
          refine r_lr (by decide) hF (fun b15 hF => ?_)
          refine r_iconst (pc := 115) (w := 0) dX1_takeSun_115 (by decide) ?_
          refine r_dup2 (pc := 116) dX1_takeSun_116 rfl rfl ?_
          refine r_lald (pc := 117) (j := 0) rfl dX1_takeSun_117 hF (fun hF => ?_)
          refine r_lload (pc := 118) 1 dX1_takeSun_118 rfl ?_
          refine r_ladd (pc := 120) dX1_takeSun_120 ?_
          refine r_last (pc := 121) (j := 0) rfl dX1_takeSun_121 hF (fun M16 hF => ?_)
          exact T.sub ((w_X1_takeSun_p122 ih) M16 x0 x1 v14 x4 hF) [6] [3, 4, 0, 5] rfl rfl
set_option maxHeartbeats 4000000 in
theorem w_X1_takeSun_p128 {X : Option Cx} {G : EG} {res : Mem × Unit} : ∀ (M : Mem) (x0 : Nat) (x2 : Int64), F_X1_takeSun_p128 M x0 x2 = some res → T X (RV G res) P_X1_takeSun M [(x0, 3)] [(0, .ref x0), (2, .long x2)] [] 128 := by
  intro M x0 x2 hF
  unfold F_X1_takeSun_p128 at hF
  refine r_aload_n (pc := 128) 0 dX1_takeSun_128 rfl rfl ?_
  refine gf_X1_18 (pc := 129) (j := 0) rfl dX1_takeSun_129 ?_
  refine r_lr (by decide) hF (fun b1 hF => ?_)
  refine r_iconst (pc := 132) (w := 1) dX1_takeSun_132 (by decide) ?_
  refine r_dup2 (pc := 133) dX1_takeSun_133 rfl rfl ?_
  refine r_lald (pc := 134) (j := 0) rfl dX1_takeSun_134 hF (fun hF => ?_)
  refine r_lload_n (pc := 135) 1 dX1_takeSun_135 rfl rfl ?_
  refine r_ladd (pc := 136) dX1_takeSun_136 ?_
  refine r_last (pc := 137) (j := 0) rfl dX1_takeSun_137 hF (fun M2 hF => ?_)
  exact r_vret (pc := 138) dX1_takeSun_138 hF
set_option maxHeartbeats 4000000 in
theorem w_X1_takeSun {X : Option Cx} {G : EG} {res : Mem × Unit} (M : Mem) (a0 : Nat) (hF : F_X1_takeSun M a0 = some res) : T X (RV G res) P_X1_takeSun M [(a0, 3)] [(0, .ref a0)] [] 0 := by
  unfold F_X1_takeSun at hF
  refine r_aload_n (pc := 0) 0 dX1_takeSun_0 rfl rfl ?_
  refine gf_X1_30 (pc := 1) (j := 0) rfl dX1_takeSun_1 ?_
  refine r_lr (by decide) hF (fun b1 hF => ?_)
  refine r_iconst (pc := 4) (w := 1) dX1_takeSun_4 (by decide) ?_
  refine r_aload_n (pc := 5) 0 dX1_takeSun_5 rfl rfl ?_
  refine gf_X1_44 (pc := 6) (j := 1) rfl dX1_takeSun_6 ?_
  refine r_bipush (pc := 9) (w := 24) dX1_takeSun_9 (by decide) ?_
  refine r_idivc (pc := 11) dX1_takeSun_11 (by decide) ?_
  refine r_callV_R (pc := 12) (Py := P_X6_inForce) (n := 2) (As := [.int ((1 : Int32)), .int ((gI M 206 a0) / (24 : Int32))]) (fun q e => k_X6_inForce G _ b1 (1 : Int32) ((gI M 206 a0) / (24 : Int32)) q e) (c := 7) (Tb := TX6) (N := 3) rfl (by decide) (j0 := 0) rfl tw_406 tw_407 tw_408 tw_66 tw_409 hd_X6_inForce ⟨Nat.le_of_ble_eq_true rfl, Nat.le_of_ble_eq_true rfl⟩ rfl [0] rfl rfl (Nat.le_of_ble_eq_true rfl) dX1_takeSun_12 hF (fun M2 r3 hF => ?_)
  refine r_astoreo_n (pc := 15) (r := r3) (L1 := [(1, va_rf r3), (0, .ref a0)]) dX1_takeSun_15 rfl (by decide) rfl ?_
  refine r_aload_n (pc := 16) 1 dX1_takeSun_16 rfl rfl ?_
  refine gf_X1_22 (pc := 17) (j := 1) rfl dX1_takeSun_17 ?_
  refine r_lr (by decide) hF (fun b4 hF => ?_)
  refine gf_X1_91 (pc := 20) (j := 0) rfl dX1_takeSun_20 ?_
  refine r_lr (by decide) hF (fun b5 hF => ?_)
  refine r_aload_n (pc := 23) 1 dX1_takeSun_23 rfl rfl ?_
  refine gf_X1_44 (pc := 24) (j := 3) rfl dX1_takeSun_24 ?_
  refine r_callSN_I (pc := 27) (Py := P_X11_inRound) (n := 2) (As := [.ref b5, .int (gI M2 206 a0)]) (fun q e => k_X11_inRound G _ b5 (gI M2 206 a0) q e) tw_413 tw_335 tw_60 tw_336 hd_X11_inRound ⟨Nat.le_of_ble_eq_true rfl, Nat.le_of_ble_eq_true rfl⟩ rfl [0] rfl rfl (Nat.le_of_ble_eq_true rfl) dX1_takeSun_27 hF (fun M6 r7 hF => ?_)
  refine r_i2l (pc := 30) dX1_takeSun_30 ?_
  refine r_gJ (pc := 31) hF (fun v8 hF => ?_)
  refine r_lstore_n (pc := 31) (L1 := [(2, .long v8), (1, va_rf r3), (0, .ref a0)]) dX1_takeSun_31 rfl (by decide) (by cases r3 <;> rfl) ?_
  refine r_iconst (pc := 32) (w := 0) dX1_takeSun_32 (by decide) ?_
  refine r_istore (pc := 33) (L1 := [(4, .int ((0 : Int32))), (2, .long v8), (1, va_rf r3), (0, .ref a0)]) dX1_takeSun_33 (by decide) rfl ?_
  exact T.sub ((w_X1_takeSun_p35 (w_X1_takeSun_p128) FU) M6 a0 r3 v8 (0 : Int32) hF) [3] [3, 2, 1, 0] rfl rfl
theorem k_X1_takeSun (G : EG) (M : Mem) (a0 : Nat) (q : Mem × Unit) (h : F_X1_takeSun M a0 = some q) : Kt yX1_takeSun P_X1_takeSun M [(a0, 3)] [.ref a0] (RV G q) := Kt.of (by decide +kernel) rfl (Nat.le_of_ble_eq_true rfl) rfl (fun X hz => w_X1_takeSun M a0 h)
set_option maxHeartbeats 4000000 in
theorem w_X6_tellHour {X : Option Cx} {G : EG} {res : Mem × Unit} (M : Mem) (a0 : Nat) (a1 : Nat) (a2 : Int32) (a3 : Int64) (hF : F_X6_tellHour M a0 a1 a2 a3 = some res) : T X (RV G res) P_X6_tellHour M [(a0, 8), (a1, 12)] [(0, .ref a0), (1, .ref a1), (2, .int a2), (3, .long a3)] [] 0 := by
  unfold F_X6_tellHour at hF
  refine r_aload_n (pc := 0) 0 dX6_tellHour_0 rfl rfl ?_
  refine gf_X6_18 (pc := 1) (j := 0) rfl dX6_tellHour_1 ?_
  refine r_lr (by decide) hF (fun b1 hF => ?_)
  refine r_iconst (pc := 4) (w := 0) dX6_tellHour_4 (by decide) ?_
  refine r_iload_n (pc := 5) 2 dX6_tellHour_5 rfl rfl ?_
  refine r_bipush (pc := 6) (w := 24) dX6_tellHour_6 (by decide) ?_
  refine r_iremc (pc := 8) dX6_tellHour_8 (by decide) ?_
  refine r_i2l (pc := 9) dX6_tellHour_9 ?_
  refine r_last (pc := 10) (j := 0) rfl dX6_tellHour_10 hF (fun M2 hF => ?_)
  refine r_aload_n (pc := 11) 0 dX6_tellHour_11 rfl rfl ?_
  refine gf_X6_18 (pc := 12) (j := 1) rfl dX6_tellHour_12 ?_
  refine r_lr (by decide) hF (fun b3 hF => ?_)
  refine r_iconst (pc := 15) (w := 1) dX6_tellHour_15 (by decide) ?_
  refine r_iload_n (pc := 16) 2 dX6_tellHour_16 rfl rfl ?_
  refine r_bipush (pc := 17) (w := 24) dX6_tellHour_17 (by decide) ?_
  refine r_idivc (pc := 19) dX6_tellHour_19 (by decide) ?_
  refine r_i2l (pc := 20) dX6_tellHour_20 ?_
  refine r_last (pc := 21) (j := 0) rfl dX6_tellHour_21 hF (fun M4 hF => ?_)
  refine r_aload_n (pc := 22) 0 dX6_tellHour_22 rfl rfl ?_
  refine gf_X6_18 (pc := 23) (j := 2) rfl dX6_tellHour_23 ?_
  refine r_lr (by decide) hF (fun b5 hF => ?_)
  refine r_iconst (pc := 26) (w := 2) dX6_tellHour_26 (by decide) ?_
  refine r_aload_n (pc := 27) 1 dX6_tellHour_27 rfl rfl ?_
  refine gf_X6_42 (pc := 28) (j := 4) rfl dX6_tellHour_28 ?_
  refine r_lr (by decide) hF (fun b6 hF => ?_)
  refine r_iload_n (pc := 31) 2 dX6_tellHour_31 rfl rfl ?_
  refine r_callSN_I (pc := 32) (Py := P_X11_inRound) (n := 2) (As := [.ref b6, .int a2]) (fun q e => k_X11_inRound G _ b6 a2 q e) tw_370 tw_335 tw_60 tw_336 hd_X11_inRound ⟨Nat.le_of_ble_eq_true rfl, Nat.le_of_ble_eq_true rfl⟩ rfl [0] rfl rfl (Nat.le_of_ble_eq_true rfl) dX6_tellHour_32 hF (fun M7 r8 hF => ?_)
  refine r_i2l (pc := 35) dX6_tellHour_35 ?_
  refine r_last (pc := 36) (j := 1) rfl dX6_tellHour_36 hF (fun M9 hF => ?_)
  refine r_aload_n (pc := 37) 0 dX6_tellHour_37 rfl rfl ?_
  refine gf_X6_18 (pc := 38) (j := 4) rfl dX6_tellHour_38 ?_
  refine r_lr (by decide) hF (fun b10 hF => ?_)
  refine r_iconst (pc := 41) (w := 3) dX6_tellHour_41 (by decide) ?_
  refine r_aload_n (pc := 42) 1 dX6_tellHour_42 rfl rfl ?_
  refine gf_X6_52 (pc := 43) (j := 6) rfl dX6_tellHour_43 ?_
  refine r_lr (by decide) hF (fun b11 hF => ?_)
  refine r_iload_n (pc := 46) 2 dX6_tellHour_46 rfl rfl ?_
  refine r_bipush (pc := 47) (w := 24) dX6_tellHour_47 (by decide) ?_
  refine r_idivc (pc := 49) dX6_tellHour_49 (by decide) ?_
  refine r_callSN_I (pc := 50) (Py := P_X11_inRound) (n := 2) (As := [.ref b11, .int (a2 / (24 : Int32))]) (fun q e => k_X11_inRound G _ b11 (a2 / (24 : Int32)) q e) tw_370 tw_335 tw_60 tw_336 hd_X11_inRound ⟨Nat.le_of_ble_eq_true rfl, Nat.le_of_ble_eq_true rfl⟩ rfl [0] rfl rfl (Nat.le_of_ble_eq_true rfl) dX6_tellHour_50 hF (fun M12 r13 hF => ?_)
  refine r_i2l (pc := 53) dX6_tellHour_53 ?_
  refine r_last (pc := 54) (j := 1) rfl dX6_tellHour_54 hF (fun M14 hF => ?_)
  refine r_aload_n (pc := 55) 0 dX6_tellHour_55 rfl rfl ?_
  refine gf_X6_18 (pc := 56) (j := 6) rfl dX6_tellHour_56 ?_
  refine r_lr (by decide) hF (fun b15 hF => ?_)
  refine r_iconst (pc := 59) (w := 4) dX6_tellHour_59 (by decide) ?_
  refine r_lload_n (pc := 60) 3 dX6_tellHour_60 rfl rfl ?_
  refine r_last (pc := 61) (j := 0) rfl dX6_tellHour_61 hF (fun M16 hF => ?_)
  exact r_vret (pc := 62) dX6_tellHour_62 hF
theorem k_X6_tellHour (G : EG) (M : Mem) (a0 : Nat) (a1 : Nat) (a2 : Int32) (a3 : Int64) (q : Mem × Unit) (h : F_X6_tellHour M a0 a1 a2 a3 = some q) : Kt yX6_tellHour P_X6_tellHour M [(a0, 8), (a1, 12)] [.ref a0, .ref a1, .int a2, .long a3] (RV G q) := Kt.of (by decide +kernel) rfl (Nat.le_of_ble_eq_true rfl) rfl (fun X hz => w_X6_tellHour M a0 a1 a2 a3 h)
set_option maxHeartbeats 4000000 in
theorem w_X1_pass_p43 {X : Option Cx} {G : EG} {res : Mem × Unit} {k74 : Mem → Nat → Option (Mem × Unit)} (hk74 : ∀ (M : Mem) (x0 : Nat), k74 M x0 = some res → T X (RV G res) P_X1_pass M [(x0, 3)] [(0, .ref x0)] [] 74) : ∀ (n : Nat) (M : Mem) (x0 : Nat) (x3 : Int32), F_X1_pass_p43 k74 n M x0 x3 = some res → T X (RV G res) P_X1_pass M [(x0, 3)] [(0, .ref x0), (3, .int x3)] [] 43 := by
  intro n
  induction n with
  | zero =>
    intro M x0 x3 hF
    cases hF
  | succ n ih =>
    intro M x0 x3 hF
    unfold F_X1_pass_p43 at hF
    refine r_iload_n (pc := 43) 1 dX1_pass_43 rfl rfl ?_
    refine r_aload_n (pc := 44) 0 dX1_pass_44 rfl rfl ?_
    refine gf_X1_12 (pc := 45) (j := 0) rfl dX1_pass_45 ?_
    refine r_lr (by decide) hF (fun b1 hF => ?_)
    refine r_callV_I (pc := 48) (Py := P_Jx4a65c_size_8abf5) (n := 0) (As := []) (fun q e => k_Jx4a65c_size_8abf5 G _ b1 q e) (c := 0) (Tb := TJx4a65c) (N := 3) rfl (by decide) (j0 := 0) rfl tw_375 tw_344 tw_345 tw_64 tw_346 hd_Jx4a65c_size_8abf5 ⟨Nat.le_of_ble_eq_true rfl, Nat.le_of_ble_eq_true rfl⟩ rfl [0] rfl rfl (Nat.le_of_ble_eq_true rfl) dX1_pass_48 hF (fun M2 r3 hF => ?_)
    refine r_icmp_ge (pc := 51) (tgt := 74) dX1_pass_51 rfl hF (fun hF => ?_) (fun hF => ?_)
    · exact T.sub (hk74 M2 x0 hF) [1] [0] rfl rfl
    · refine r_aload_n (pc := 54) 0 dX1_pass_54 rfl rfl ?_
      refine gf_X1_12 (pc := 55) (j := 1) rfl dX1_pass_55 ?_
      refine r_lr (by decide) hF (fun b4 hF => ?_)
      refine r_iload_n (pc := 58) 1 dX1_pass_58 rfl rfl ?_
      refine r_callV_R (pc := 59) (Py := P_Jx4a65c_get_915e3) (n := 1) (As := [.int x3]) (fun q e => k_Jx4a65c_get_915e3 G _ b4 x3 q e) (c := 0) (Tb := TJx4a65c) (N := 3) rfl (by decide) (j0 := 0) rfl tw_376 tw_348 tw_349 tw_64 tw_350 hd_Jx4a65c_get_915e3 ⟨Nat.le_of_ble_eq_true rfl, Nat.le_of_ble_eq_true rfl⟩ rfl [0] rfl rfl (Nat.le_of_ble_eq_true rfl) dX1_pass_59 hF (fun M5 r6 hF => ?_)
      refine r_lr (by decide) hF (fun b7 hF => ?_)
      refine r_cast (pc := 62) (c := 1) (Tb := TX0) (N := 11) rfl (by decide) (j := 0) rfl tw_377 dX1_pass_62 ?_
      refine r_callV_V (pc := 65) (Py := P_X0_settle) (n := 0) (As := []) (fun q e => k_X0_settle G _ b7 q e) (c := 1) (Tb := TX0) (N := 11) rfl (by decide) (j0 := 0) rfl tw_457 tw_458 tw_459 tw_74 tw_460 hd_X0_settle ⟨Nat.le_of_ble_eq_true rfl, Nat.le_of_ble_eq_true rfl⟩ rfl [0] rfl rfl (Nat.le_of_ble_eq_true rfl) dX1_pass_65 hF (fun M8 r9 hF => ?_)
      obtain ⟨v10, e9, hF⟩ := bnd_e hF
      refine r_iinc (pc := 68) (w := v10) (k := 1) (L1 := [(3, .int v10), (0, .ref x0)]) dX1_pass_68 rfl (by rw [e9]; rfl) (by decide) rfl ?_
      clear e9
      refine r_goto (pc := 71) (tgt := 43) dX1_pass_71 rfl ?_
      exact T.sub (ih M8 x0 v10 hF) [3] [1, 0] rfl rfl
set_option maxHeartbeats 4000000 in
theorem w_X1_pass_p74 {X : Option Cx} {G : EG} {res : Mem × Unit} : ∀ (M : Mem) (x0 : Nat), F_X1_pass_p74 M x0 = some res → T X (RV G res) P_X1_pass M [(x0, 3)] [(0, .ref x0)] [] 74 := by
  intro M x0 hF
  unfold F_X1_pass_p74 at hF
  refine r_aload_n (pc := 74) 0 dX1_pass_74 rfl rfl ?_
  refine r_dup (pc := 75) dX1_pass_75 rfl ?_
  refine gf_X1_44 (pc := 76) (j := 0) rfl dX1_pass_76 ?_
  refine r_iconst (pc := 79) (w := 1) dX1_pass_79 (by decide) ?_
  refine r_iadd (pc := 80) dX1_pass_80 ?_
  refine pf_X1_44 (pc := 81) (j := 0) rfl dX1_pass_81 hF (fun M1 hF => ?_)
  exact r_vret (pc := 84) dX1_pass_84 hF
set_option maxHeartbeats 4000000 in
theorem w_X1_pass {X : Option Cx} {G : EG} {res : Mem × Unit} (M : Mem) (a0 : Nat) (hF : F_X1_pass M a0 = some res) : T X (RV G res) P_X1_pass M [(a0, 3)] [(0, .ref a0)] [] 0 := by
  unfold F_X1_pass at hF
  refine r_aload_n (pc := 0) 0 dX1_pass_0 rfl rfl ?_
  refine gf_X1_22 (pc := 1) (j := 0) rfl dX1_pass_1 ?_
  refine r_lr (by decide) hF (fun b1 hF => ?_)
  refine r_aload_n (pc := 4) 0 dX1_pass_4 rfl rfl ?_
  refine gf_X1_44 (pc := 5) (j := 1) rfl dX1_pass_5 ?_
  refine r_callV_J (pc := 8) (Py := P_X10_needOf) (n := 1) (As := [.int (gI M 206 a0)]) (fun q e => k_X10_needOf G _ b1 (gI M 206 a0) q e) (c := 11) (Tb := TX10) (N := 4) rfl (by decide) (j0 := 0) rfl tw_330 tw_331 tw_332 tw_61 tw_333 hd_X10_needOf ⟨Nat.le_of_ble_eq_true rfl, Nat.le_of_ble_eq_true rfl⟩ rfl [0] rfl rfl (Nat.le_of_ble_eq_true rfl) dX1_pass_8 hF (fun M2 r3 hF => ?_)
  refine r_lstore_n (pc := 11) (L1 := [(1, .long r3), (0, .ref a0)]) dX1_pass_11 rfl (by decide) rfl ?_
  refine r_aload_n (pc := 12) 1 dX1_pass_12 rfl rfl ?_
  refine gf_X1_30 (pc := 13) (j := 1) rfl dX1_pass_13 ?_
  refine r_lr (by decide) hF (fun b4 hF => ?_)
  refine r_aload_n (pc := 16) 1 dX1_pass_16 rfl rfl ?_
  refine gf_X1_22 (pc := 17) (j := 2) rfl dX1_pass_17 ?_
  refine r_lr (by decide) hF (fun b5 hF => ?_)
  refine r_aload_n (pc := 20) 1 dX1_pass_20 rfl rfl ?_
  refine gf_X1_44 (pc := 21) (j := 3) rfl dX1_pass_21 ?_
  refine r_lload_n (pc := 24) 0 dX1_pass_24 rfl rfl ?_
  refine r_callV_V (pc := 25) (Py := P_X6_tellHour) (n := 3) (As := [.ref b5, .int (gI M2 206 a0), .long r3]) (fun q e => k_X6_tellHour G _ b4 b5 (gI M2 206 a0) r3 q e) (c := 7) (Tb := TX6) (N := 3) rfl (by decide) (j0 := 1) rfl tw_366 tw_367 tw_368 tw_66 tw_369 hd_X6_tellHour ⟨Nat.le_of_ble_eq_true rfl, Nat.le_of_ble_eq_true rfl⟩ rfl [1, 0] rfl rfl (Nat.le_of_ble_eq_true rfl) dX1_pass_25 hF (fun M6 r7 hF => ?_)
  refine r_aload_n (pc := 28) 1 dX1_pass_28 rfl rfl ?_
  refine r_callV_V (pc := 29) (Py := P_X1_layFlows) (n := 0) (As := []) (fun q e => k_X1_layFlows G _ a0 q e) (c := 2) (Tb := TX1) (N := 7) rfl (by decide) (j0 := 3) rfl tw_371 tw_373 tw_1 tw_69 tw_374 hd_X1_layFlows ⟨Nat.le_of_ble_eq_true rfl, Nat.le_of_ble_eq_true rfl⟩ rfl [3] rfl rfl (Nat.le_of_ble_eq_true rfl) dX1_pass_29 hF (fun M8 r9 hF => ?_)
  refine r_aload_n (pc := 32) 1 dX1_pass_32 rfl rfl ?_
  refine r_callV_V (pc := 33) (Py := P_X1_takeSun) (n := 0) (As := []) (fun q e => k_X1_takeSun G _ a0 q e) (c := 2) (Tb := TX1) (N := 7) rfl (by decide) (j0 := 3) rfl tw_402 tw_404 tw_2 tw_69 tw_405 hd_X1_takeSun ⟨Nat.le_of_ble_eq_true rfl, Nat.le_of_ble_eq_true rfl⟩ rfl [3] rfl rfl (Nat.le_of_ble_eq_true rfl) dX1_pass_33 hF (fun M10 r11 hF => ?_)
  refine r_aload_n (pc := 36) 1 dX1_pass_36 rfl rfl ?_
  refine r_lload_n (pc := 37) 0 dX1_pass_37 rfl rfl ?_
  refine r_callV_V (pc := 38) (Py := P_X1_meet) (n := 1) (As := [.long r3]) (fun q e => k_X1_meet G _ a0 r3 q e) (c := 2) (Tb := TX1) (N := 7) rfl (by decide) (j0 := 3) rfl tw_436 tw_438 tw_5 tw_69 tw_439 hd_X1_meet ⟨Nat.le_of_ble_eq_true rfl, Nat.le_of_ble_eq_true rfl⟩ rfl [3] rfl rfl (Nat.le_of_ble_eq_true rfl) dX1_pass_38 hF (fun M12 r13 hF => ?_)
  refine r_iconst (pc := 41) (w := 0) dX1_pass_41 (by decide) ?_
  refine r_istore_n (pc := 42) (L1 := [(3, .int ((0 : Int32))), (1, .long r3), (0, .ref a0)]) dX1_pass_42 rfl (by decide) rfl ?_
  exact T.sub ((w_X1_pass_p43 (w_X1_pass_p74) FU) M12 a0 (0 : Int32) hF) [3] [2, 0] rfl rfl
theorem k_X1_pass (G : EG) (M : Mem) (a0 : Nat) (q : Mem × Unit) (h : F_X1_pass M a0 = some q) : Kt yX1_pass P_X1_pass M [(a0, 3)] [.ref a0] (RV G q) := Kt.of (by decide +kernel) rfl (Nat.le_of_ble_eq_true rfl) rfl (fun X hz => w_X1_pass M a0 h)
set_option maxHeartbeats 4000000 in
theorem w_X11_passColdest_p70 {X : Option Cx} {G : EG} {res : Mem × Unit} {k20 : Mem → Nat → Int32 → Int32 → Option (Mem × Unit)} (hk20 : ∀ (M : Mem) (x0 : Nat) (x1 : Int32) (x2 : Int32), k20 M x0 x1 x2 = some res → T X (RV G res) P_X11_passColdest M [(x0, 13)] [(0, .ref x0), (1, .int x1), (2, .int x2)] [] 20) : ∀ (M : Mem) (x0 : Nat) (x1 : Int32) (x2 : Int32), F_X11_passColdest_p70 k20 M x0 x1 x2 = some res → T X (RV G res) P_X11_passColdest M [(x0, 13)] [(0, .ref x0), (1, .int x1), (2, .int x2)] [] 70 := by
  intro M x0 x1 x2 hF
  unfold F_X11_passColdest_p70 at hF
  obtain ⟨v1, e9, hF⟩ := bnd_e hF
  refine r_iinc (pc := 70) (w := v1) (k := 2) (L1 := [(2, .int v1), (0, .ref x0), (1, .int x1)]) dX11_passColdest_70 rfl (by rw [e9]; rfl) (by decide) rfl ?_
  clear e9
  refine r_goto (pc := 73) (tgt := 20) dX11_passColdest_73 rfl ?_
  exact T.sub (hk20 M x0 x1 v1 hF) [0] [1, 2, 0] rfl rfl
set_option maxHeartbeats 4000000 in
theorem w_X11_passColdest_p20 {X : Option Cx} {G : EG} {res : Mem × Unit} {k76 : Mem → Option (Mem × Unit)} (hk76 : ∀ (M : Mem), k76 M = some res → T X (RV G res) P_X11_passColdest M [] [] [] 76) : ∀ (n : Nat) (M : Mem) (x0 : Nat) (x1 : Int32) (x2 : Int32), F_X11_passColdest_p20 k76 n M x0 x1 x2 = some res → T X (RV G res) P_X11_passColdest M [(x0, 13)] [(0, .ref x0), (1, .int x1), (2, .int x2)] [] 20 := by
  intro n
  induction n with
  | zero =>
    intro M x0 x1 x2 hF
    cases hF
  | succ n ih =>
    intro M x0 x1 x2 hF
    unfold F_X11_passColdest_p20 at hF
    refine r_iload_n (pc := 20) 2 dX11_passColdest_20 rfl rfl ?_
    refine r_iload_n (pc := 21) 1 dX11_passColdest_21 rfl rfl ?_
    refine r_icmp_ge (pc := 22) (tgt := 76) dX11_passColdest_22 rfl hF (fun hF => ?_) (fun hF => ?_)
    · exact T.sub (hk76 M hF) [] [] rfl rfl
    · refine r_aload_n (pc := 25) 0 dX11_passColdest_25 rfl rfl ?_
      refine gf_X11_53 (pc := 26) (j := 0) rfl dX11_passColdest_26 ?_
      refine r_lr (by decide) hF (fun b1 hF => ?_)
      refine gf_X11_67 (pc := 29) (j := 0) rfl dX11_passColdest_29 ?_
      refine r_gI (pc := 32) hF (fun v2 hF => ?_)
      refine r_istore_n (pc := 32) (L1 := [(3, .int v2), (0, .ref x0), (1, .int x1), (2, .int x2)]) dX11_passColdest_32 rfl (by decide) rfl ?_
      refine r_aload_n (pc := 33) 1 dX11_passColdest_33 rfl rfl ?_
      refine gf_X11_53 (pc := 34) (j := 1) rfl dX11_passColdest_34 ?_
      refine r_lr (by decide) hF (fun b3 hF => ?_)
      refine r_callV_V (pc := 37) (Py := P_X1_pass) (n := 0) (As := []) (fun q e => k_X1_pass G _ b3 q e) (c := 2) (Tb := TX1) (N := 7) rfl (by decide) (j0 := 0) rfl tw_326 tw_327 tw_328 tw_69 tw_329 hd_X1_pass ⟨Nat.le_of_ble_eq_true rfl, Nat.le_of_ble_eq_true rfl⟩ rfl [0] rfl rfl (Nat.le_of_ble_eq_true rfl) dX11_passColdest_37 hF (fun M4 r5 hF => ?_)
      refine r_aload_n (pc := 40) 1 dX11_passColdest_40 rfl rfl ?_
      refine gf_X11_53 (pc := 41) (j := 2) rfl dX11_passColdest_41 ?_
      refine r_lr (by decide) hF (fun b6 hF => ?_)
      refine r_callV_J (pc := 44) (Py := P_X1_coldestNow) (n := 0) (As := []) (fun q e => k_X1_coldestNow G _ b6 q e) (c := 2) (Tb := TX1) (N := 7) rfl (by decide) (j0 := 0) rfl tw_972 tw_973 tw_974 tw_69 tw_975 hd_X1_coldestNow ⟨Nat.le_of_ble_eq_true rfl, Nat.le_of_ble_eq_true rfl⟩ rfl [0] rfl rfl (Nat.le_of_ble_eq_true rfl) dX11_passColdest_44 hF (fun M7 r8 hF => ?_)
      refine r_lstore (pc := 47) (L1 := [(4, .long r8), (3, .int v2), (0, .ref x0), (1, .int x1), (2, .int x2)]) dX11_passColdest_47 (by decide) rfl ?_
      refine r_lload (pc := 49) 0 dX11_passColdest_49 rfl ?_
      refine r_aload_n (pc := 51) 2 dX11_passColdest_51 rfl rfl ?_
      refine gf_X11_255 (pc := 52) (j := 3) rfl dX11_passColdest_52 ?_
      refine r_lcmp (pc := 55) dX11_passColdest_55 ?_
      refine r_if_ge (pc := 56) (tgt := 70) dX11_passColdest_56 rfl hF (fun hF => ?_) (fun hF => ?_)
      · exact T.sub ((w_X11_passColdest_p70 ih) M7 x0 x1 x2 hF) [3] [2, 3, 4] rfl rfl
      · refine r_aload_n (pc := 59) 2 dX11_passColdest_59 rfl rfl ?_
        refine r_lload (pc := 60) 0 dX11_passColdest_60 rfl ?_
        refine pf_X11_255 (pc := 62) (j := 3) rfl dX11_passColdest_62 hF (fun M9 hF => ?_)
        refine r_aload_n (pc := 65) 2 dX11_passColdest_65 rfl rfl ?_
        refine r_iload_n (pc := 66) 1 dX11_passColdest_66 rfl rfl ?_
        refine pf_X11_258 (pc := 67) (j := 3) rfl dX11_passColdest_67 hF (fun M10 hF => ?_)
        exact T.sub ((w_X11_passColdest_p70 ih) M10 x0 x1 x2 hF) [3] [2, 3, 4] rfl rfl
set_option maxHeartbeats 4000000 in
theorem w_X11_passColdest_p76 {X : Option Cx} {G : EG} {res : Mem × Unit} : ∀ (M : Mem), F_X11_passColdest_p76 M = some res → T X (RV G res) P_X11_passColdest M [] [] [] 76 := by
  intro M hF
  unfold F_X11_passColdest_p76 at hF
  exact r_vret (pc := 76) dX11_passColdest_76 hF
set_option maxHeartbeats 4000000 in
theorem w_X11_passColdest {X : Option Cx} {G : EG} {res : Mem × Unit} (M : Mem) (a0 : Nat) (a1 : Int32) (hF : F_X11_passColdest M a0 a1 = some res) : T X (RV G res) P_X11_passColdest M [(a0, 13)] [(0, .ref a0), (1, .int a1)] [] 0 := by
  unfold F_X11_passColdest at hF
  refine r_aload_n (pc := 0) 0 dX11_passColdest_0 rfl rfl ?_
  refine r_ldc2 (pc := 1) (w := 4000000000000000000) tw_650 dX11_passColdest_1 ?_
  refine pf_X11_255 (pc := 4) (j := 0) rfl dX11_passColdest_4 hF (fun M1 hF => ?_)
  refine r_aload_n (pc := 7) 0 dX11_passColdest_7 rfl rfl ?_
  refine r_aload_n (pc := 8) 0 dX11_passColdest_8 rfl rfl ?_
  refine gf_X11_53 (pc := 9) (j := 0) rfl dX11_passColdest_9 ?_
  refine r_lr (by decide) hF (fun b2 hF => ?_)
  refine gf_X11_67 (pc := 12) (j := 0) rfl dX11_passColdest_12 ?_
  refine pf_X11_258 (pc := 15) (j := 1) rfl dX11_passColdest_15 hF (fun M3 hF => ?_)
  refine r_iconst (pc := 18) (w := 0) dX11_passColdest_18 (by decide) ?_
  refine r_istore_n (pc := 19) (L1 := [(2, .int ((0 : Int32))), (0, .ref a0), (1, .int a1)]) dX11_passColdest_19 rfl (by decide) rfl ?_
  exact T.sub ((w_X11_passColdest_p20 (w_X11_passColdest_p76) FU) M3 a0 a1 (0 : Int32) hF) [1] [1, 2, 0] rfl rfl
theorem k_X11_passColdest (G : EG) (M : Mem) (a0 : Nat) (a1 : Int32) (q : Mem × Unit) (h : F_X11_passColdest M a0 a1 = some q) : Kt yX11_passColdest P_X11_passColdest M [(a0, 13)] [.ref a0, .int a1] (RV G q) := Kt.of (by decide +kernel) rfl (Nat.le_of_ble_eq_true rfl) rfl (fun X hz => w_X11_passColdest M a0 a1 h)
set_option maxHeartbeats 4000000 in
theorem w_X11_refuse_p25 {X : Option Cx} {G : EG} {res : Mem × Int32} : ∀ (M : Mem) (x1 : Int32), F_X11_refuse_p25 M x1 = some res → T X (RI G res) P_X11_refuse M [] [(1, .int x1)] [] 25 := by
  intro M x1 hF
  unfold F_X11_refuse_p25 at hF
  refine r_iload_n (pc := 25) 0 dX11_refuse_25 rfl rfl ?_
  exact r_iret (pc := 26) dX11_refuse_26 hF
set_option maxHeartbeats 4000000 in
theorem w_X11_refuse {X : Option Cx} {G : EG} {res : Mem × Int32} (M : Mem) (a0 : Nat) (a1 : Int32) (hF : F_X11_refuse M a0 a1 = some res) : T X (RI G res) P_X11_refuse M [(a0, 13)] [(0, .ref a0), (1, .int a1)] [] 0 := by
  unfold F_X11_refuse at hF
  refine r_iload_n (pc := 0) 1 dX11_refuse_0 rfl rfl ?_
  refine r_if_ge (pc := 1) (tgt := 25) dX11_refuse_1 rfl hF (fun hF => ?_) (fun hF => ?_)
  · exact T.sub ((w_X11_refuse_p25) M a1 hF) [] [1] rfl rfl
  · refine r_iload_n (pc := 4) 1 dX11_refuse_4 rfl rfl ?_
    refine r_aload_n (pc := 5) 0 dX11_refuse_5 rfl rfl ?_
    refine gf_X11_63 (pc := 6) (j := 0) rfl dX11_refuse_6 ?_
    refine r_lr (by decide) hF (fun b1 hF => ?_)
    refine r_alen (pc := 9) (j := 0) rfl (by decide) dX11_refuse_9 ?_
    refine r_ineg (pc := 10) dX11_refuse_10 ?_
    refine r_icmp_le (pc := 11) (tgt := 25) dX11_refuse_11 rfl hF (fun hF => ?_) (fun hF => ?_)
    · exact T.sub ((w_X11_refuse_p25) M a1 hF) [] [1] rfl rfl
    · refine r_aload_n (pc := 14) 0 dX11_refuse_14 rfl rfl ?_
      refine gf_X11_63 (pc := 15) (j := 1) rfl dX11_refuse_15 ?_
      refine r_lr (by decide) hF (fun b2 hF => ?_)
      refine r_iload_n (pc := 18) 1 dX11_refuse_18 rfl rfl ?_
      refine r_ineg (pc := 19) dX11_refuse_19 ?_
      refine r_dup2 (pc := 20) dX11_refuse_20 rfl rfl ?_
      refine r_iald (pc := 21) (j := 0) rfl dX11_refuse_21 hF (fun hF => ?_)
      refine r_iconst (pc := 22) (w := 1) dX11_refuse_22 (by decide) ?_
      refine r_iadd (pc := 23) dX11_refuse_23 ?_
      refine r_iast (pc := 24) (j := 0) rfl dX11_refuse_24 hF (fun M3 hF => ?_)
      exact T.sub ((w_X11_refuse_p25) M3 a1 hF) [] [1] rfl rfl
theorem k_X11_refuse (G : EG) (M : Mem) (a0 : Nat) (a1 : Int32) (q : Mem × Int32) (h : F_X11_refuse M a0 a1 = some q) : Kt yX11_refuse P_X11_refuse M [(a0, 13)] [.ref a0, .int a1] (RI G q) := Kt.of (by decide +kernel) rfl (Nat.le_of_ble_eq_true rfl) rfl (fun X hz => w_X11_refuse M a0 a1 h)
set_option maxHeartbeats 4000000 in
theorem w_X11_refuseLong {X : Option Cx} {G : EG} {res : Mem × Int64} (M : Mem) (a0 : Nat) (a1 : Int32) (hF : F_X11_refuseLong M a0 a1 = some res) : T X (RJ G res) P_X11_refuseLong M [(a0, 13)] [(0, .ref a0), (1, .int a1)] [] 0 := by
  unfold F_X11_refuseLong at hF
  refine r_ldc2 (pc := 0) (w := 4000000000000000000) tw_650 dX11_refuseLong_0 ?_
  refine r_aload_n (pc := 3) 0 dX11_refuseLong_3 rfl rfl ?_
  refine r_iload_n (pc := 4) 1 dX11_refuseLong_4 rfl rfl ?_
  refine r_callV_I (pc := 5) (Py := P_X11_refuse) (n := 1) (As := [.int a1]) (fun q e => k_X11_refuse G _ a0 a1 q e) (c := 12) (Tb := TX11) (N := 11) rfl (by decide) (j0 := 0) rfl tw_322 tw_324 tw_0 tw_60 tw_325 hd_X11_refuse ⟨Nat.le_of_ble_eq_true rfl, Nat.le_of_ble_eq_true rfl⟩ rfl [0] rfl rfl (Nat.le_of_ble_eq_true rfl) dX11_refuseLong_5 hF (fun M1 r2 hF => ?_)
  refine r_i2l (pc := 8) dX11_refuseLong_8 ?_
  refine r_lsub (pc := 9) dX11_refuseLong_9 ?_
  exact r_lret (pc := 10) dX11_refuseLong_10 hF
theorem k_X11_refuseLong (G : EG) (M : Mem) (a0 : Nat) (a1 : Int32) (q : Mem × Int64) (h : F_X11_refuseLong M a0 a1 = some q) : Kt yX11_refuseLong P_X11_refuseLong M [(a0, 13)] [.ref a0, .int a1] (RJ G q) := Kt.of (by decide +kernel) rfl (Nat.le_of_ble_eq_true rfl) rfl (fun X hz => w_X11_refuseLong M a0 a1 h)
set_option maxHeartbeats 4000000 in
theorem w_X1_follow_p18 {X : Option Cx} {G : EG} {res : Mem × Unit} {k54 : Mem → Nat → Nat → Option (Mem × Unit)} (hk54 : ∀ (M : Mem) (x0 : Nat) (x1 : Nat), k54 M x0 x1 = some res → T X (RV G res) P_X1_follow M [(x0, 3), (x1, 3)] [(0, .ref x0), (1, .ref x1)] [] 54) : ∀ (n : Nat) (M : Mem) (x0 : Nat) (x1 : Nat) (x2 : Int32), F_X1_follow_p18 k54 n M x0 x1 x2 = some res → T X (RV G res) P_X1_follow M [(x0, 3), (x1, 3)] [(0, .ref x0), (1, .ref x1), (2, .int x2)] [] 18 := by
  intro n
  induction n with
  | zero =>
    intro M x0 x1 x2 hF
    cases hF
  | succ n ih =>
    intro M x0 x1 x2 hF
    unfold F_X1_follow_p18 at hF
    refine r_iload_n (pc := 18) 2 dX1_follow_18 rfl rfl ?_
    refine r_aload_n (pc := 19) 0 dX1_follow_19 rfl rfl ?_
    refine gf_X1_18 (pc := 20) (j := 0) rfl dX1_follow_20 ?_
    refine r_lr (by decide) hF (fun b1 hF => ?_)
    refine r_alen (pc := 23) (j := 0) rfl (by decide) dX1_follow_23 ?_
    refine r_icmp_ge (pc := 24) (tgt := 54) dX1_follow_24 rfl hF (fun hF => ?_) (fun hF => ?_)
    · exact T.sub (hk54 M x0 x1 hF) [1, 2] [0, 1] rfl rfl
    · refine r_iload_n (pc := 27) 2 dX1_follow_27 rfl rfl ?_
      refine r_aload_n (pc := 28) 1 dX1_follow_28 rfl rfl ?_
      refine gf_X1_18 (pc := 29) (j := 2) rfl dX1_follow_29 ?_
      refine r_lr (by decide) hF (fun b2 hF => ?_)
      refine r_alen (pc := 32) (j := 0) rfl (by decide) dX1_follow_32 ?_
      refine r_icmp_ge (pc := 33) (tgt := 54) dX1_follow_33 rfl hF (fun hF => ?_) (fun hF => ?_)
      · exact T.sub (hk54 M x0 x1 hF) [2, 3] [0, 1] rfl rfl
      · refine r_aload_n (pc := 36) 0 dX1_follow_36 rfl rfl ?_
        refine gf_X1_18 (pc := 37) (j := 2) rfl dX1_follow_37 ?_
        refine r_lr (by decide) hF (fun b3 hF => ?_)
        refine r_iload_n (pc := 40) 2 dX1_follow_40 rfl rfl ?_
        refine r_aload_n (pc := 41) 1 dX1_follow_41 rfl rfl ?_
        refine gf_X1_18 (pc := 42) (j := 4) rfl dX1_follow_42 ?_
        refine r_lr (by decide) hF (fun b4 hF => ?_)
        refine r_iload_n (pc := 45) 2 dX1_follow_45 rfl rfl ?_
        refine r_lald (pc := 46) (j := 0) rfl dX1_follow_46 hF (fun hF => ?_)
        refine r_last (pc := 47) (j := 1) rfl dX1_follow_47 hF (fun M5 hF => ?_)
        obtain ⟨v6, e9, hF⟩ := bnd_e hF
        refine r_iinc (pc := 48) (w := v6) (k := 2) (L1 := [(2, .int v6), (0, .ref x0), (1, .ref x1)]) dX1_follow_48 rfl (by rw [e9]; rfl) (by decide) rfl ?_
        clear e9
        refine r_goto (pc := 51) (tgt := 18) dX1_follow_51 rfl ?_
        exact T.sub (ih M5 x0 x1 v6 hF) [4, 5] [1, 2, 0] rfl rfl
set_option maxHeartbeats 4000000 in
theorem w_X1_follow_p56 {X : Option Cx} {G : EG} {res : Mem × Unit} {k109 : Mem → Option (Mem × Unit)} (hk109 : ∀ (M : Mem), k109 M = some res → T X (RV G res) P_X1_follow M [] [] [] 109) : ∀ (n : Nat) (M : Mem) (x0 : Nat) (x1 : Nat) (x2 : Int32), F_X1_follow_p56 k109 n M x0 x1 x2 = some res → T X (RV G res) P_X1_follow M [(x0, 3), (x1, 3)] [(0, .ref x0), (1, .ref x1), (2, .int x2)] [] 56 := by
  intro n
  induction n with
  | zero =>
    intro M x0 x1 x2 hF
    cases hF
  | succ n ih =>
    intro M x0 x1 x2 hF
    unfold F_X1_follow_p56 at hF
    refine r_iload_n (pc := 56) 2 dX1_follow_56 rfl rfl ?_
    refine r_aload_n (pc := 57) 0 dX1_follow_57 rfl rfl ?_
    refine gf_X1_12 (pc := 58) (j := 0) rfl dX1_follow_58 ?_
    refine r_lr (by decide) hF (fun b1 hF => ?_)
    refine r_callV_I (pc := 61) (Py := P_Jx4a65c_size_8abf5) (n := 0) (As := []) (fun q e => k_Jx4a65c_size_8abf5 G _ b1 q e) (c := 0) (Tb := TJx4a65c) (N := 3) rfl (by decide) (j0 := 0) rfl tw_375 tw_344 tw_345 tw_64 tw_346 hd_Jx4a65c_size_8abf5 ⟨Nat.le_of_ble_eq_true rfl, Nat.le_of_ble_eq_true rfl⟩ rfl [0] rfl rfl (Nat.le_of_ble_eq_true rfl) dX1_follow_61 hF (fun M2 r3 hF => ?_)
    refine r_icmp_ge (pc := 64) (tgt := 109) dX1_follow_64 rfl hF (fun hF => ?_) (fun hF => ?_)
    · exact T.sub (hk109 M2 hF) [] [] rfl rfl
    · refine r_iload_n (pc := 67) 2 dX1_follow_67 rfl rfl ?_
      refine r_aload_n (pc := 68) 1 dX1_follow_68 rfl rfl ?_
      refine gf_X1_12 (pc := 69) (j := 2) rfl dX1_follow_69 ?_
      refine r_lr (by decide) hF (fun b4 hF => ?_)
      refine r_callV_I (pc := 72) (Py := P_Jx4a65c_size_8abf5) (n := 0) (As := []) (fun q e => k_Jx4a65c_size_8abf5 G _ b4 q e) (c := 0) (Tb := TJx4a65c) (N := 3) rfl (by decide) (j0 := 0) rfl tw_375 tw_344 tw_345 tw_64 tw_346 hd_Jx4a65c_size_8abf5 ⟨Nat.le_of_ble_eq_true rfl, Nat.le_of_ble_eq_true rfl⟩ rfl [0] rfl rfl (Nat.le_of_ble_eq_true rfl) dX1_follow_72 hF (fun M5 r6 hF => ?_)
      refine r_icmp_ge (pc := 75) (tgt := 109) dX1_follow_75 rfl hF (fun hF => ?_) (fun hF => ?_)
      · exact T.sub (hk109 M5 hF) [] [] rfl rfl
      · refine r_aload_n (pc := 78) 0 dX1_follow_78 rfl rfl ?_
        refine gf_X1_12 (pc := 79) (j := 2) rfl dX1_follow_79 ?_
        refine r_lr (by decide) hF (fun b7 hF => ?_)
        refine r_iload_n (pc := 82) 2 dX1_follow_82 rfl rfl ?_
        refine r_callV_R (pc := 83) (Py := P_Jx4a65c_get_915e3) (n := 1) (As := [.int x2]) (fun q e => k_Jx4a65c_get_915e3 G _ b7 x2 q e) (c := 0) (Tb := TJx4a65c) (N := 3) rfl (by decide) (j0 := 0) rfl tw_376 tw_348 tw_349 tw_64 tw_350 hd_Jx4a65c_get_915e3 ⟨Nat.le_of_ble_eq_true rfl, Nat.le_of_ble_eq_true rfl⟩ rfl [0] rfl rfl (Nat.le_of_ble_eq_true rfl) dX1_follow_83 hF (fun M8 r9 hF => ?_)
        refine r_lr (by decide) hF (fun b10 hF => ?_)
        refine r_cast (pc := 86) (c := 1) (Tb := TX0) (N := 11) rfl (by decide) (j := 0) rfl tw_377 dX1_follow_86 ?_
        refine r_aload_n (pc := 89) 1 dX1_follow_89 rfl rfl ?_
        refine gf_X1_12 (pc := 90) (j := 5) rfl dX1_follow_90 ?_
        refine r_lr (by decide) hF (fun b11 hF => ?_)
        refine r_iload_n (pc := 93) 2 dX1_follow_93 rfl rfl ?_
        refine r_callV_R (pc := 94) (Py := P_Jx4a65c_get_915e3) (n := 1) (As := [.int x2]) (fun q e => k_Jx4a65c_get_915e3 G _ b11 x2 q e) (c := 0) (Tb := TJx4a65c) (N := 3) rfl (by decide) (j0 := 0) rfl tw_376 tw_348 tw_349 tw_64 tw_350 hd_Jx4a65c_get_915e3 ⟨Nat.le_of_ble_eq_true rfl, Nat.le_of_ble_eq_true rfl⟩ rfl [0] rfl rfl (Nat.le_of_ble_eq_true rfl) dX1_follow_94 hF (fun M12 r13 hF => ?_)
        refine r_lr (by decide) hF (fun b14 hF => ?_)
        refine r_cast (pc := 97) (c := 1) (Tb := TX0) (N := 11) rfl (by decide) (j := 0) rfl tw_377 dX1_follow_97 ?_
        refine r_callV_V (pc := 100) (Py := P_X0_follow) (n := 1) (As := [.ref b14]) (fun q e => k_X0_follow G _ b10 b14 q e) (c := 1) (Tb := TX0) (N := 11) rfl (by decide) (j0 := 2) rfl tw_956 tw_957 tw_958 tw_74 tw_959 hd_X0_follow ⟨Nat.le_of_ble_eq_true rfl, Nat.le_of_ble_eq_true rfl⟩ rfl [2, 0] rfl rfl (Nat.le_of_ble_eq_true rfl) dX1_follow_100 hF (fun M15 r16 hF => ?_)
        obtain ⟨v17, e9, hF⟩ := bnd_e hF
        refine r_iinc (pc := 103) (w := v17) (k := 2) (L1 := [(2, .int v17), (0, .ref x0), (1, .ref x1)]) dX1_follow_103 rfl (by rw [e9]; rfl) (by decide) rfl ?_
        clear e9
        refine r_goto (pc := 106) (tgt := 56) dX1_follow_106 rfl ?_
        exact T.sub (ih M15 x0 x1 v17 hF) [6, 7] [1, 2, 0] rfl rfl
set_option maxHeartbeats 4000000 in
theorem w_X1_follow_p109 {X : Option Cx} {G : EG} {res : Mem × Unit} : ∀ (M : Mem), F_X1_follow_p109 M = some res → T X (RV G res) P_X1_follow M [] [] [] 109 := by
  intro M hF
  unfold F_X1_follow_p109 at hF
  exact r_vret (pc := 109) dX1_follow_109 hF
set_option maxHeartbeats 4000000 in
theorem w_X1_follow_p54 {X : Option Cx} {G : EG} {res : Mem × Unit} : ∀ (M : Mem) (x0 : Nat) (x1 : Nat), F_X1_follow_p54 M x0 x1 = some res → T X (RV G res) P_X1_follow M [(x0, 3), (x1, 3)] [(0, .ref x0), (1, .ref x1)] [] 54 := by
  intro M x0 x1 hF
  unfold F_X1_follow_p54 at hF
  refine r_iconst (pc := 54) (w := 0) dX1_follow_54 (by decide) ?_
  refine r_istore_n (pc := 55) (L1 := [(2, .int ((0 : Int32))), (0, .ref x0), (1, .ref x1)]) dX1_follow_55 rfl (by decide) rfl ?_
  exact T.sub ((w_X1_follow_p56 (w_X1_follow_p109) FU) M x0 x1 (0 : Int32) hF) [0, 1] [1, 2, 0] rfl rfl
set_option maxHeartbeats 4000000 in
theorem w_X1_follow {X : Option Cx} {G : EG} {res : Mem × Unit} (M : Mem) (a0 : Nat) (a1 : Nat) (hF : F_X1_follow M a0 a1 = some res) : T X (RV G res) P_X1_follow M [(a0, 3), (a1, 3)] [(0, .ref a0), (1, .ref a1)] [] 0 := by
  unfold F_X1_follow at hF
  refine r_aload_n (pc := 0) 0 dX1_follow_0 rfl rfl ?_
  refine r_aload_n (pc := 1) 1 dX1_follow_1 rfl rfl ?_
  refine gf_X1_80 (pc := 2) (j := 1) rfl dX1_follow_2 ?_
  refine pf_X1_80 (pc := 5) (j := 0) rfl dX1_follow_5 hF (fun M1 hF => ?_)
  refine r_aload_n (pc := 8) 0 dX1_follow_8 rfl rfl ?_
  refine r_aload_n (pc := 9) 1 dX1_follow_9 rfl rfl ?_
  refine gf_X1_44 (pc := 10) (j := 1) rfl dX1_follow_10 ?_
  refine pf_X1_44 (pc := 13) (j := 0) rfl dX1_follow_13 hF (fun M2 hF => ?_)
  refine r_iconst (pc := 16) (w := 0) dX1_follow_16 (by decide) ?_
  refine r_istore_n (pc := 17) (L1 := [(2, .int ((0 : Int32))), (0, .ref a0), (1, .ref a1)]) dX1_follow_17 rfl (by decide) rfl ?_
  exact T.sub ((w_X1_follow_p18 (w_X1_follow_p54) FU) M2 a0 a1 (0 : Int32) hF) [0, 1] [1, 2, 0] rfl rfl
theorem k_X1_follow (G : EG) (M : Mem) (a0 : Nat) (a1 : Nat) (q : Mem × Unit) (h : F_X1_follow M a0 a1 = some q) : Kt yX1_follow P_X1_follow M [(a0, 3), (a1, 3)] [.ref a0, .ref a1] (RV G q) := Kt.of (by decide +kernel) rfl (Nat.le_of_ble_eq_true rfl) rfl (fun X hz => w_X1_follow M a0 a1 h)
set_option maxHeartbeats 4000000 in
theorem w_X1_shut_p37 {X : Option Cx} {G : EG} {res : Mem × Unit} {k2 : Mem → Nat → Int32 → Int32 → Option (Mem × Unit)} (hk2 : ∀ (M : Mem) (x0 : Nat) (x1 : Int32) (x2 : Int32), k2 M x0 x1 x2 = some res → T X (RV G res) P_X1_shut M [(x0, 3)] [(0, .ref x0), (1, .int x1), (2, .int x2)] [] 2) : ∀ (M : Mem) (x0 : Nat) (x1 : Int32) (x2 : Int32), F_X1_shut_p37 k2 M x0 x1 x2 = some res → T X (RV G res) P_X1_shut M [(x0, 3)] [(0, .ref x0), (1, .int x1), (2, .int x2)] [] 37 := by
  intro M x0 x1 x2 hF
  unfold F_X1_shut_p37 at hF
  obtain ⟨v1, e9, hF⟩ := bnd_e hF
  refine r_iinc (pc := 37) (w := v1) (k := 2) (L1 := [(2, .int v1), (0, .ref x0), (1, .int x1)]) dX1_shut_37 rfl (by rw [e9]; rfl) (by decide) rfl ?_
  clear e9
  refine r_goto (pc := 40) (tgt := 2) dX1_shut_40 rfl ?_
  exact T.sub (hk2 M x0 x1 v1 hF) [0] [1, 2, 0] rfl rfl
set_option maxHeartbeats 4000000 in
theorem w_X1_shut_p2 {X : Option Cx} {G : EG} {res : Mem × Unit} {k43 : Mem → Option (Mem × Unit)} (hk43 : ∀ (M : Mem), k43 M = some res → T X (RV G res) P_X1_shut M [] [] [] 43) : ∀ (n : Nat) (M : Mem) (x0 : Nat) (x1 : Int32) (x2 : Int32), F_X1_shut_p2 k43 n M x0 x1 x2 = some res → T X (RV G res) P_X1_shut M [(x0, 3)] [(0, .ref x0), (1, .int x1), (2, .int x2)] [] 2 := by
  intro n
  induction n with
  | zero =>
    intro M x0 x1 x2 hF
    cases hF
  | succ n ih =>
    intro M x0 x1 x2 hF
    unfold F_X1_shut_p2 at hF
    refine r_iload_n (pc := 2) 2 dX1_shut_2 rfl rfl ?_
    refine r_aload_n (pc := 3) 0 dX1_shut_3 rfl rfl ?_
    refine gf_X1_12 (pc := 4) (j := 0) rfl dX1_shut_4 ?_
    refine r_lr (by decide) hF (fun b1 hF => ?_)
    refine r_callV_I (pc := 7) (Py := P_Jx4a65c_size_8abf5) (n := 0) (As := []) (fun q e => k_Jx4a65c_size_8abf5 G _ b1 q e) (c := 0) (Tb := TJx4a65c) (N := 3) rfl (by decide) (j0 := 0) rfl tw_375 tw_344 tw_345 tw_64 tw_346 hd_Jx4a65c_size_8abf5 ⟨Nat.le_of_ble_eq_true rfl, Nat.le_of_ble_eq_true rfl⟩ rfl [0] rfl rfl (Nat.le_of_ble_eq_true rfl) dX1_shut_7 hF (fun M2 r3 hF => ?_)
    refine r_icmp_ge (pc := 10) (tgt := 43) dX1_shut_10 rfl hF (fun hF => ?_) (fun hF => ?_)
    · exact T.sub (hk43 M2 hF) [] [] rfl rfl
    · refine r_iload_n (pc := 13) 1 dX1_shut_13 rfl rfl ?_
      refine r_iload_n (pc := 14) 2 dX1_shut_14 rfl rfl ?_
      refine r_ishr (pc := 15) dX1_shut_15 ?_
      refine r_iconst (pc := 16) (w := 1) dX1_shut_16 (by decide) ?_
      refine r_iand (pc := 17) dX1_shut_17 ?_
      refine r_iconst (pc := 18) (w := 1) dX1_shut_18 (by decide) ?_
      refine r_icmp_ne (pc := 19) (tgt := 37) dX1_shut_19 rfl hF (fun hF => ?_) (fun hF => ?_)
      · exact T.sub ((w_X1_shut_p37 ih) M2 x0 x1 x2 hF) [1] [0, 1, 2] rfl rfl
      · refine r_aload_n (pc := 22) 0 dX1_shut_22 rfl rfl ?_
        refine gf_X1_12 (pc := 23) (j := 1) rfl dX1_shut_23 ?_
        refine r_lr (by decide) hF (fun b4 hF => ?_)
        refine r_iload_n (pc := 26) 2 dX1_shut_26 rfl rfl ?_
        refine r_callV_R (pc := 27) (Py := P_Jx4a65c_get_915e3) (n := 1) (As := [.int x2]) (fun q e => k_Jx4a65c_get_915e3 G _ b4 x2 q e) (c := 0) (Tb := TJx4a65c) (N := 3) rfl (by decide) (j0 := 0) rfl tw_376 tw_348 tw_349 tw_64 tw_350 hd_Jx4a65c_get_915e3 ⟨Nat.le_of_ble_eq_true rfl, Nat.le_of_ble_eq_true rfl⟩ rfl [0] rfl rfl (Nat.le_of_ble_eq_true rfl) dX1_shut_27 hF (fun M5 r6 hF => ?_)
        refine r_lr (by decide) hF (fun b7 hF => ?_)
        refine r_cast (pc := 30) (c := 1) (Tb := TX0) (N := 11) rfl (by decide) (j := 0) rfl tw_377 dX1_shut_30 ?_
        refine r_iconst (pc := 33) (w := 0) dX1_shut_33 (by decide) ?_
        refine pf_X1_99 (pc := 34) (j := 0) rfl dX1_shut_34 hF (fun M8 hF => ?_)
        exact T.sub ((w_X1_shut_p37 ih) M8 x0 x1 x2 hF) [3] [0, 1, 2] rfl rfl
set_option maxHeartbeats 4000000 in
theorem w_X1_shut_p43 {X : Option Cx} {G : EG} {res : Mem × Unit} : ∀ (M : Mem), F_X1_shut_p43 M = some res → T X (RV G res) P_X1_shut M [] [] [] 43 := by
  intro M hF
  unfold F_X1_shut_p43 at hF
  exact r_vret (pc := 43) dX1_shut_43 hF
set_option maxHeartbeats 4000000 in
theorem w_X1_shut {X : Option Cx} {G : EG} {res : Mem × Unit} (M : Mem) (a0 : Nat) (a1 : Int32) (hF : F_X1_shut M a0 a1 = some res) : T X (RV G res) P_X1_shut M [(a0, 3)] [(0, .ref a0), (1, .int a1)] [] 0 := by
  unfold F_X1_shut at hF
  refine r_iconst (pc := 0) (w := 0) dX1_shut_0 (by decide) ?_
  refine r_istore_n (pc := 1) (L1 := [(2, .int ((0 : Int32))), (0, .ref a0), (1, .int a1)]) dX1_shut_1 rfl (by decide) rfl ?_
  exact T.sub ((w_X1_shut_p2 (w_X1_shut_p43) FU) M a0 a1 (0 : Int32) hF) [0] [1, 2, 0] rfl rfl
theorem k_X1_shut (G : EG) (M : Mem) (a0 : Nat) (a1 : Int32) (q : Mem × Unit) (h : F_X1_shut M a0 a1 = some q) : Kt yX1_shut P_X1_shut M [(a0, 3)] [.ref a0, .int a1] (RV G q) := Kt.of (by decide +kernel) rfl (Nat.le_of_ble_eq_true rfl) rfl (fun X hz => w_X1_shut M a0 a1 h)
set_option maxHeartbeats 4000000 in
theorem w_X11_ahead_p20 {X : Option Cx} {G : EG} {res : Mem × Int64} : ∀ (M : Mem) (x0 : Nat), F_X11_ahead_p20 M x0 = some res → T X (RJ G res) P_X11_ahead M [(x0, 13)] [(0, .ref x0)] [] 20 := by
  intro M x0 hF
  unfold F_X11_ahead_p20 at hF
  refine r_aload_n (pc := 20) 0 dX11_ahead_20 rfl rfl ?_
  refine r_iconst (pc := 21) (w := -1) dX11_ahead_21 (by decide) ?_
  refine r_callV_J (pc := 22) (Py := P_X11_refuseLong) (n := 1) (As := [.int ((-1 : Int32))]) (fun q e => k_X11_refuseLong G _ x0 (-1 : Int32) q e) (c := 12) (Tb := TX11) (N := 11) rfl (by decide) (j0 := 0) rfl tw_646 tw_648 tw_10 tw_60 tw_649 hd_X11_refuseLong ⟨Nat.le_of_ble_eq_true rfl, Nat.le_of_ble_eq_true rfl⟩ rfl [0] rfl rfl (Nat.le_of_ble_eq_true rfl) dX11_ahead_22 hF (fun M1 r2 hF => ?_)
  exact r_lret (pc := 25) dX11_ahead_25 hF
set_option maxHeartbeats 4000000 in
theorem w_X11_ahead_p35 {X : Option Cx} {G : EG} {res : Mem × Int64} : ∀ (M : Mem) (x0 : Nat), F_X11_ahead_p35 M x0 = some res → T X (RJ G res) P_X11_ahead M [(x0, 13)] [(0, .ref x0)] [] 35 := by
  intro M x0 hF
  unfold F_X11_ahead_p35 at hF
  refine r_aload_n (pc := 35) 0 dX11_ahead_35 rfl rfl ?_
  refine r_bipush (pc := 36) (w := -2) dX11_ahead_36 (by decide) ?_
  refine r_callV_J (pc := 38) (Py := P_X11_refuseLong) (n := 1) (As := [.int ((-2 : Int32))]) (fun q e => k_X11_refuseLong G _ x0 (-2 : Int32) q e) (c := 12) (Tb := TX11) (N := 11) rfl (by decide) (j0 := 0) rfl tw_646 tw_648 tw_10 tw_60 tw_649 hd_X11_refuseLong ⟨Nat.le_of_ble_eq_true rfl, Nat.le_of_ble_eq_true rfl⟩ rfl [0] rfl rfl (Nat.le_of_ble_eq_true rfl) dX11_ahead_38 hF (fun M1 r2 hF => ?_)
  exact r_lret (pc := 41) dX11_ahead_41 hF
set_option maxHeartbeats 4000000 in
theorem w_X11_ahead_p154 {X : Option Cx} {G : EG} {res : Mem × Int64} : ∀ (M : Mem) (y0 : Int64), F_X11_ahead_p154 M y0 = some res → T X (RJ G res) P_X11_ahead M [] [] [.long y0] 154 := by
  intro M y0 hF
  unfold F_X11_ahead_p154 at hF
  exact r_lret (pc := 154) dX11_ahead_154 hF
set_option maxHeartbeats 4000000 in
theorem w_X11_ahead_p89 {X : Option Cx} {G : EG} {res : Mem × Int64} : ∀ (M : Mem) (x0 : Nat) (x1 : Int32) (x2 : Int32) (x3 : Int32), F_X11_ahead_p89 M x0 x1 x2 x3 = some res → T X (RJ G res) P_X11_ahead M [(x0, 13)] [(0, .ref x0), (1, .int x1), (2, .int x2), (3, .int x3)] [] 89 := by
  intro M x0 x1 x2 x3 hF
  unfold F_X11_ahead_p89 at hF
  refine r_aload_n (pc := 89) 0 dX11_ahead_89 rfl rfl ?_
  refine gf_X11_53 (pc := 90) (j := 0) rfl dX11_ahead_90 ?_
  refine r_lr (by decide) hF (fun b1 hF => ?_)
  refine r_aload_n (pc := 93) 0 dX11_ahead_93 rfl rfl ?_
  refine gf_X11_49 (pc := 94) (j := 1) rfl dX11_ahead_94 ?_
  refine r_lr (by decide) hF (fun b2 hF => ?_)
  refine r_callV_V (pc := 97) (Py := P_X1_follow) (n := 1) (As := [.ref b2]) (fun q e => k_X1_follow G _ b1 b2 q e) (c := 2) (Tb := TX1) (N := 7) rfl (by decide) (j0 := 1) rfl tw_952 tw_953 tw_954 tw_69 tw_955 hd_X1_follow ⟨Nat.le_of_ble_eq_true rfl, Nat.le_of_ble_eq_true rfl⟩ rfl [1, 0] rfl rfl (Nat.le_of_ble_eq_true rfl) dX11_ahead_97 hF (fun M3 r4 hF => ?_)
  refine r_aload_n (pc := 100) 0 dX11_ahead_100 rfl rfl ?_
  refine gf_X11_53 (pc := 101) (j := 2) rfl dX11_ahead_101 ?_
  refine r_lr (by decide) hF (fun b5 hF => ?_)
  refine r_iload_n (pc := 104) 2 dX11_ahead_104 rfl rfl ?_
  refine r_callV_V (pc := 105) (Py := P_X1_shut) (n := 1) (As := [.int x2]) (fun q e => k_X1_shut G _ b5 x2 q e) (c := 2) (Tb := TX1) (N := 7) rfl (by decide) (j0 := 0) rfl tw_964 tw_965 tw_966 tw_69 tw_967 hd_X1_shut ⟨Nat.le_of_ble_eq_true rfl, Nat.le_of_ble_eq_true rfl⟩ rfl [0] rfl rfl (Nat.le_of_ble_eq_true rfl) dX11_ahead_105 hF (fun M6 r7 hF => ?_)
  refine r_aload_n (pc := 108) 0 dX11_ahead_108 rfl rfl ?_
  refine r_iload_n (pc := 109) 1 dX11_ahead_109 rfl rfl ?_
  refine r_callV_V (pc := 110) (Py := P_X11_passColdest) (n := 1) (As := [.int x1]) (fun q e => k_X11_passColdest G _ x0 x1 q e) (c := 12) (Tb := TX11) (N := 11) rfl (by decide) (j0 := 3) rfl tw_968 tw_970 tw_22 tw_60 tw_971 hd_X11_passColdest ⟨Nat.le_of_ble_eq_true rfl, Nat.le_of_ble_eq_true rfl⟩ rfl [3] rfl rfl (Nat.le_of_ble_eq_true rfl) dX11_ahead_110 hF (fun M8 r9 hF => ?_)
  refine r_iload_n (pc := 113) 3 dX11_ahead_113 rfl rfl ?_
  refine r_iconst (pc := 114) (w := 2) dX11_ahead_114 (by decide) ?_
  refine r_icmp_ne (pc := 115) (tgt := 138) dX11_ahead_115 rfl hF (fun hF => ?_) (fun hF => ?_)
  · refine r_iload_n (pc := 138) 3 dX11_ahead_138 rfl rfl ?_
    refine r_if_ne (pc := 139) (tgt := 149) dX11_ahead_139 rfl hF (fun hF => ?_) (fun hF => ?_)
    · refine r_aload_n (pc := 149) 0 dX11_ahead_149 rfl rfl ?_
      refine gf_X11_258 (pc := 150) (j := 3) rfl dX11_ahead_150 ?_
      refine r_i2l (pc := 153) dX11_ahead_153 ?_
      exact T.sub ((w_X11_ahead_p154) M8 ((gI M8 1210 x0).toInt64) hF) [] [] rfl rfl
    · refine r_aload_n (pc := 142) 0 dX11_ahead_142 rfl rfl ?_
      refine gf_X11_255 (pc := 143) (j := 3) rfl dX11_ahead_143 ?_
      refine r_goto (pc := 146) (tgt := 154) dX11_ahead_146 rfl ?_
      exact T.sub ((w_X11_ahead_p154) M8 (gJ M8 1209 x0) hF) [] [] rfl rfl
  · refine r_aload_n (pc := 118) 0 dX11_ahead_118 rfl rfl ?_
    refine gf_X11_53 (pc := 119) (j := 3) rfl dX11_ahead_119 ?_
    refine r_lr (by decide) hF (fun b10 hF => ?_)
    refine gf_X11_231 (pc := 122) (j := 0) rfl dX11_ahead_122 ?_
    refine r_lr (by decide) hF (fun b11 hF => ?_)
    refine r_iconst (pc := 125) (w := 5) dX11_ahead_125 (by decide) ?_
    refine r_lald (pc := 126) (j := 0) rfl dX11_ahead_126 hF (fun hF => ?_)
    refine r_aload_n (pc := 127) 0 dX11_ahead_127 rfl rfl ?_
    refine gf_X11_49 (pc := 128) (j := 5) rfl dX11_ahead_128 ?_
    refine r_lr (by decide) hF (fun b12 hF => ?_)
    refine gf_X11_231 (pc := 131) (j := 0) rfl dX11_ahead_131 ?_
    refine r_lr (by decide) hF (fun b13 hF => ?_)
    refine r_iconst (pc := 134) (w := 5) dX11_ahead_134 (by decide) ?_
    refine r_lald (pc := 135) (j := 0) rfl dX11_ahead_135 hF (fun hF => ?_)
    refine r_lsub (pc := 136) dX11_ahead_136 ?_
    exact r_lret (pc := 137) dX11_ahead_137 hF
set_option maxHeartbeats 4000000 in
theorem w_X11_ahead {X : Option Cx} {G : EG} {res : Mem × Int64} (M : Mem) (a0 : Nat) (a1 : Int32) (a2 : Int32) (a3 : Int32) (hF : F_X11_ahead M a0 a1 a2 a3 = some res) : T X (RJ G res) P_X11_ahead M [(a0, 13)] [(0, .ref a0), (1, .int a1), (2, .int a2), (3, .int a3)] [] 0 := by
  unfold F_X11_ahead at hF
  refine r_iload_n (pc := 0) 2 dX11_ahead_0 rfl rfl ?_
  refine r_if_lt (pc := 1) (tgt := 20) dX11_ahead_1 rfl hF (fun hF => ?_) (fun hF => ?_)
  · exact T.sub ((w_X11_ahead_p20) M a0 hF) [0] [0] rfl rfl
  · refine r_iload_n (pc := 4) 2 dX11_ahead_4 rfl rfl ?_
    refine r_iconst (pc := 5) (w := 1) dX11_ahead_5 (by decide) ?_
    refine r_aload_n (pc := 6) 0 dX11_ahead_6 rfl rfl ?_
    refine gf_X11_49 (pc := 7) (j := 0) rfl dX11_ahead_7 ?_
    refine r_lr (by decide) hF (fun b1 hF => ?_)
    refine gf_X11_82 (pc := 10) (j := 0) rfl dX11_ahead_10 ?_
    refine r_lr (by decide) hF (fun b2 hF => ?_)
    refine r_callV_I (pc := 13) (Py := P_Jx4a65c_size_8abf5) (n := 0) (As := []) (fun q e => k_Jx4a65c_size_8abf5 G _ b2 q e) (c := 0) (Tb := TJx4a65c) (N := 3) rfl (by decide) (j0 := 0) rfl tw_470 tw_344 tw_345 tw_64 tw_346 hd_Jx4a65c_size_8abf5 ⟨Nat.le_of_ble_eq_true rfl, Nat.le_of_ble_eq_true rfl⟩ rfl [0] rfl rfl (Nat.le_of_ble_eq_true rfl) dX11_ahead_13 hF (fun M3 r4 hF => ?_)
    refine r_ishl (pc := 16) dX11_ahead_16 ?_
    refine r_icmp_lt (pc := 17) (tgt := 26) dX11_ahead_17 rfl hF (fun hF => ?_) (fun hF => ?_)
    · refine r_iload_n (pc := 26) 3 dX11_ahead_26 rfl rfl ?_
      refine r_if_lt (pc := 27) (tgt := 35) dX11_ahead_27 rfl hF (fun hF => ?_) (fun hF => ?_)
      · exact T.sub ((w_X11_ahead_p35) M3 a0 hF) [2] [0] rfl rfl
      · refine r_iload_n (pc := 30) 3 dX11_ahead_30 rfl rfl ?_
        refine r_iconst (pc := 31) (w := 2) dX11_ahead_31 (by decide) ?_
        refine r_icmp_le (pc := 32) (tgt := 42) dX11_ahead_32 rfl hF (fun hF => ?_) (fun hF => ?_)
        · refine r_iload_n (pc := 42) 1 dX11_ahead_42 rfl rfl ?_
          refine r_iconst (pc := 43) (w := 1) dX11_ahead_43 (by decide) ?_
          refine r_sipush (pc := 44) (w := 500) dX11_ahead_44 (by decide) ?_
          refine r_callS_I (pc := 47) (Py := P_X11_beyond) (n := 3) (As := [.int a1, .int ((1 : Int32)), .int ((500 : Int32))]) (fun q e => k_X11_beyond G _ a1 (1 : Int32) (500 : Int32) q e) tw_319 tw_320 tw_60 tw_321 hd_X11_beyond ⟨Nat.le_of_ble_eq_true rfl, Nat.le_of_ble_eq_true rfl⟩ rfl [] rfl rfl (Nat.le_of_ble_eq_true rfl) dX11_ahead_47 hF (fun M5 r6 hF => ?_)
          refine r_istore (pc := 50) (L1 := [(4, .int r6), (0, .ref a0), (1, .int a1), (2, .int a2), (3, .int a3)]) dX11_ahead_50 (by decide) rfl ?_
          refine r_iload (pc := 52) 0 dX11_ahead_52 rfl ?_
          refine r_if_eq (pc := 54) (tgt := 64) dX11_ahead_54 rfl hF (fun hF => ?_) (fun hF => ?_)
          · refine r_iload_n (pc := 64) 4 dX11_ahead_64 rfl rfl ?_
            refine r_iconst (pc := 65) (w := 2) dX11_ahead_65 (by decide) ?_
            refine r_icmp_eq (pc := 66) (tgt := 89) dX11_ahead_66 rfl hF (fun hF => ?_) (fun hF => ?_)
            · exact T.sub ((w_X11_ahead_p89) M5 a0 a1 a2 a3 hF) [2] [1, 2, 3, 4] rfl rfl
            · refine r_aload_n (pc := 69) 1 dX11_ahead_69 rfl rfl ?_
              refine gf_X11_49 (pc := 70) (j := 2) rfl dX11_ahead_70 ?_
              refine r_lr (by decide) hF (fun b7 hF => ?_)
              refine gf_X11_82 (pc := 73) (j := 0) rfl dX11_ahead_73 ?_
              refine r_lr (by decide) hF (fun b8 hF => ?_)
              refine r_callV_I (pc := 76) (Py := P_Jx4a65c_isEmpty_aae02) (n := 0) (As := []) (fun q e => k_Jx4a65c_isEmpty_aae02 G _ b8 q e) (c := 0) (Tb := TJx4a65c) (N := 3) rfl (by decide) (j0 := 0) rfl tw_948 tw_949 tw_950 tw_64 tw_951 hd_Jx4a65c_isEmpty_aae02 ⟨Nat.le_of_ble_eq_true rfl, Nat.le_of_ble_eq_true rfl⟩ rfl [0] rfl rfl (Nat.le_of_ble_eq_true rfl) dX11_ahead_76 hF (fun M9 r10 hF => ?_)
              refine r_if_eq (pc := 79) (tgt := 89) dX11_ahead_79 rfl hF (fun hF => ?_) (fun hF => ?_)
              · exact T.sub ((w_X11_ahead_p89) M9 a0 a1 a2 a3 hF) [4] [1, 2, 3, 4] rfl rfl
              · refine r_aload_n (pc := 82) 1 dX11_ahead_82 rfl rfl ?_
                refine r_bipush (pc := 83) (w := -3) dX11_ahead_83 (by decide) ?_
                refine r_callV_J (pc := 85) (Py := P_X11_refuseLong) (n := 1) (As := [.int ((-3 : Int32))]) (fun q e => k_X11_refuseLong G _ a0 (-3 : Int32) q e) (c := 12) (Tb := TX11) (N := 11) rfl (by decide) (j0 := 4) rfl tw_646 tw_648 tw_10 tw_60 tw_649 hd_X11_refuseLong ⟨Nat.le_of_ble_eq_true rfl, Nat.le_of_ble_eq_true rfl⟩ rfl [4] rfl rfl (Nat.le_of_ble_eq_true rfl) dX11_ahead_85 hF (fun M11 r12 hF => ?_)
                exact r_lret (pc := 88) dX11_ahead_88 hF
          · refine r_aload_n (pc := 57) 1 dX11_ahead_57 rfl rfl ?_
            refine r_iload (pc := 58) 0 dX11_ahead_58 rfl ?_
            refine r_callV_J (pc := 60) (Py := P_X11_refuseLong) (n := 1) (As := [.int r6]) (fun q e => k_X11_refuseLong G _ a0 r6 q e) (c := 12) (Tb := TX11) (N := 11) rfl (by decide) (j0 := 2) rfl tw_646 tw_648 tw_10 tw_60 tw_649 hd_X11_refuseLong ⟨Nat.le_of_ble_eq_true rfl, Nat.le_of_ble_eq_true rfl⟩ rfl [2] rfl rfl (Nat.le_of_ble_eq_true rfl) dX11_ahead_60 hF (fun M13 r14 hF => ?_)
            exact r_lret (pc := 63) dX11_ahead_63 hF
        · exact T.sub ((w_X11_ahead_p35) M3 a0 hF) [2] [0] rfl rfl
    · exact T.sub ((w_X11_ahead_p20) M3 a0 hF) [2] [0] rfl rfl
theorem k_X11_ahead (G : EG) (M : Mem) (a0 : Nat) (a1 : Int32) (a2 : Int32) (a3 : Int32) (q : Mem × Int64) (h : F_X11_ahead M a0 a1 a2 a3 = some q) : Kt yX11_ahead P_X11_ahead M [(a0, 13)] [.ref a0, .int a1, .int a2, .int a3] (RJ G q) := Kt.of (by decide +kernel) rfl (Nat.le_of_ble_eq_true rfl) rfl (fun X hz => w_X11_ahead M a0 a1 a2 a3 h)
set_option maxHeartbeats 4000000 in
theorem w_X8_leastCost {X : Option Cx} {G : EG} {res : Mem × Int64} (M : Mem) (a0 : Nat) (hF : F_X8_leastCost M a0 = some res) : T X (RJ G res) P_X8_leastCost M [(a0, 10)] [(0, .ref a0)] [] 0 := by
  unfold F_X8_leastCost at hF
  refine r_aload_n (pc := 0) 0 dX8_leastCost_0 rfl rfl ?_
  refine gf_X8_27 (pc := 1) (j := 0) rfl dX8_leastCost_1 ?_
  refine r_lr (by decide) hF (fun b1 hF => ?_)
  refine r_iconst (pc := 4) (w := 0) dX8_leastCost_4 (by decide) ?_
  refine r_aaldJ (pc := 5) (j := 0) rfl dX8_leastCost_5 hF (fun hF => ?_)
  refine r_lr (by decide) hF (fun b2 hF => ?_)
  refine r_iconst (pc := 6) (w := 0) dX8_leastCost_6 (by decide) ?_
  refine r_lald (pc := 7) (j := 0) rfl dX8_leastCost_7 hF (fun hF => ?_)
  exact r_lret (pc := 8) dX8_leastCost_8 hF
theorem k_X8_leastCost (G : EG) (M : Mem) (a0 : Nat) (q : Mem × Int64) (h : F_X8_leastCost M a0 = some q) : Kt yX8_leastCost P_X8_leastCost M [(a0, 10)] [.ref a0] (RJ G q) := Kt.of (by decide +kernel) rfl (Nat.le_of_ble_eq_true rfl) rfl (fun X hz => w_X8_leastCost M a0 h)
set_option maxHeartbeats 4000000 in
theorem w_X8_costOf_p36 {X : Option Cx} {G : EG} {res : Mem × Int64} : ∀ (M : Mem), F_X8_costOf_p36 M = some res → T X (RJ G res) P_X8_costOf M [] [] [] 36 := by
  intro M hF
  unfold F_X8_costOf_p36 at hF
  refine r_ldc2 (pc := 36) (w := 4000000000000000000) tw_1021 dX8_costOf_36 ?_
  exact r_lret (pc := 39) dX8_costOf_39 hF
set_option maxHeartbeats 4000000 in
theorem w_X8_costOf_p95 {X : Option Cx} {G : EG} {res : Mem × Int64} : ∀ (M : Mem) (y0 : Int64), F_X8_costOf_p95 M y0 = some res → T X (RJ G res) P_X8_costOf M [] [] [.long y0] 95 := by
  intro M y0 hF
  unfold F_X8_costOf_p95 at hF
  exact r_lret (pc := 95) dX8_costOf_95 hF
set_option maxHeartbeats 4000000 in
theorem w_X8_costOf {X : Option Cx} {G : EG} {res : Mem × Int64} (M : Mem) (a0 : Nat) (a1 : Int32) (a2 : Int32) (a3 : Int32) (hF : F_X8_costOf M a0 a1 a2 a3 = some res) : T X (RJ G res) P_X8_costOf M [(a0, 10)] [(0, .ref a0), (1, .int a1), (2, .int a2), (3, .int a3)] [] 0 := by
  unfold F_X8_costOf at hF
  refine r_iload_n (pc := 0) 2 dX8_costOf_0 rfl rfl ?_
  refine r_iload_n (pc := 1) 3 dX8_costOf_1 rfl rfl ?_
  refine r_iadd (pc := 2) dX8_costOf_2 ?_
  refine r_gI (pc := 3) hF (fun v1 hF => ?_)
  refine r_istore (pc := 3) (L1 := [(4, .int v1), (0, .ref a0), (1, .int a1), (2, .int a2), (3, .int a3)]) dX8_costOf_3 (by decide) rfl ?_
  refine r_iload_n (pc := 5) 2 dX8_costOf_5 rfl rfl ?_
  refine r_if_lt (pc := 6) (tgt := 36) dX8_costOf_6 rfl hF (fun hF => ?_) (fun hF => ?_)
  · exact T.sub ((w_X8_costOf_p36) M hF) [] [] rfl rfl
  · refine r_iload_n (pc := 9) 2 dX8_costOf_9 rfl rfl ?_
    refine r_bipush (pc := 10) (w := 24) dX8_costOf_10 (by decide) ?_
    refine r_icmp_ge (pc := 12) (tgt := 36) dX8_costOf_12 rfl hF (fun hF => ?_) (fun hF => ?_)
    · exact T.sub ((w_X8_costOf_p36) M hF) [] [] rfl rfl
    · refine r_iload (pc := 15) 0 dX8_costOf_15 rfl ?_
      refine r_if_lt (pc := 17) (tgt := 36) dX8_costOf_17 rfl hF (fun hF => ?_) (fun hF => ?_)
      · exact T.sub ((w_X8_costOf_p36) M hF) [] [] rfl rfl
      · refine r_iload (pc := 20) 0 dX8_costOf_20 rfl ?_
        refine r_aload_n (pc := 22) 1 dX8_costOf_22 rfl rfl ?_
        refine gf_X8_43 (pc := 23) (j := 0) rfl dX8_costOf_23 ?_
        refine r_icmp_gt (pc := 26) (tgt := 36) dX8_costOf_26 rfl hF (fun hF => ?_) (fun hF => ?_)
        · exact T.sub ((w_X8_costOf_p36) M hF) [] [] rfl rfl
        · refine r_iload (pc := 29) 0 dX8_costOf_29 rfl ?_
          refine r_bipush (pc := 31) (w := 9) dX8_costOf_31 (by decide) ?_
          refine r_icmp_le (pc := 33) (tgt := 40) dX8_costOf_33 rfl hF (fun hF => ?_) (fun hF => ?_)
          · refine r_aload_n (pc := 40) 1 dX8_costOf_40 rfl rfl ?_
            refine gf_X8_19 (pc := 41) (j := 0) rfl dX8_costOf_41 ?_
            refine r_lr (by decide) hF (fun b2 hF => ?_)
            refine r_iload_n (pc := 44) 2 dX8_costOf_44 rfl rfl ?_
            refine r_lald (pc := 45) (j := 0) rfl dX8_costOf_45 hF (fun hF => ?_)
            refine r_iload_n (pc := 46) 4 dX8_costOf_46 rfl rfl ?_
            refine r_i2l (pc := 47) dX8_costOf_47 ?_
            refine r_aload_n (pc := 48) 1 dX8_costOf_48 rfl rfl ?_
            refine gf_X8_9 (pc := 49) (j := 1) rfl dX8_costOf_49 ?_
            refine r_i2l (pc := 52) dX8_costOf_52 ?_
            refine r_lmul (pc := 53) dX8_costOf_53 ?_
            refine r_ladd (pc := 54) dX8_costOf_54 ?_
            refine r_gJ (pc := 55) hF (fun v3 hF => ?_)
            refine r_lstore (pc := 55) (L1 := [(5, .long v3), (4, .int v1), (0, .ref a0), (1, .int a1), (2, .int a2), (3, .int a3)]) dX8_costOf_55 (by decide) rfl ?_
            refine r_lload (pc := 57) 0 dX8_costOf_57 rfl ?_
            refine r_lconst (pc := 59) (w := 0) dX8_costOf_59 (by decide) ?_
            refine r_lcmp (pc := 60) dX8_costOf_60 ?_
            refine r_if_ge (pc := 61) (tgt := 70) dX8_costOf_61 rfl hF (fun hF => ?_) (fun hF => ?_)
            · refine r_lload (pc := 70) 0 dX8_costOf_70 rfl ?_
              refine r_aload_n (pc := 72) 2 dX8_costOf_72 rfl rfl ?_
              refine gf_X8_22 (pc := 73) (j := 1) rfl dX8_costOf_73 ?_
              refine r_lr (by decide) hF (fun b4 hF => ?_)
              refine r_iload_n (pc := 76) 3 dX8_costOf_76 rfl rfl ?_
              refine r_lald (pc := 77) (j := 0) rfl dX8_costOf_77 hF (fun hF => ?_)
              refine r_lmul (pc := 78) dX8_costOf_78 ?_
              refine r_ldc2 (pc := 79) (w := 100) tw_1026 dX8_costOf_79 ?_
              refine r_ldivc (pc := 82) dX8_costOf_82 (by decide) ?_
              refine r_aload_n (pc := 83) 2 dX8_costOf_83 rfl rfl ?_
              refine gf_X8_27 (pc := 84) (j := 2) rfl dX8_costOf_84 ?_
              refine r_lr (by decide) hF (fun b5 hF => ?_)
              refine r_iload_n (pc := 87) 3 dX8_costOf_87 rfl rfl ?_
              refine r_iconst (pc := 88) (w := 1) dX8_costOf_88 (by decide) ?_
              refine r_iadd (pc := 89) dX8_costOf_89 ?_
              refine r_aaldJ (pc := 90) (j := 0) rfl dX8_costOf_90 hF (fun hF => ?_)
              refine r_lr (by decide) hF (fun b6 hF => ?_)
              refine r_iload (pc := 91) 1 dX8_costOf_91 rfl ?_
              refine r_lald (pc := 93) (j := 0) rfl dX8_costOf_93 hF (fun hF => ?_)
              refine r_ladd (pc := 94) dX8_costOf_94 ?_
              exact T.sub ((w_X8_costOf_p95) M (((v3 * (gB M b4 (ixn a1))) / (100 : Int64)) + (gB M b6 (ixn v1))) hF) [] [] rfl rfl
            · refine r_ldc2 (pc := 64) (w := 4000000000000000000) tw_1021 dX8_costOf_64 ?_
              refine r_goto (pc := 67) (tgt := 95) dX8_costOf_67 rfl ?_
              exact T.sub ((w_X8_costOf_p95) M (4000000000000000000 : Int64) hF) [] [] rfl rfl
          · exact T.sub ((w_X8_costOf_p36) M hF) [] [] rfl rfl
theorem k_X8_costOf (G : EG) (M : Mem) (a0 : Nat) (a1 : Int32) (a2 : Int32) (a3 : Int32) (q : Mem × Int64) (h : F_X8_costOf M a0 a1 a2 a3 = some q) : Kt yX8_costOf P_X8_costOf M [(a0, 10)] [.ref a0, .int a1, .int a2, .int a3] (RJ G q) := Kt.of (by decide +kernel) rfl (Nat.le_of_ble_eq_true rfl) rfl (fun X hz => w_X8_costOf M a0 a1 a2 a3 h)
set_option maxHeartbeats 4000000 in
theorem w_X8_leastFrom_p8 {X : Option Cx} {G : EG} {res : Mem × Int64} {k33 : Mem → Int64 → Option (Mem × Int64)} (hk33 : ∀ (M : Mem) (x3 : Int64), k33 M x3 = some res → T X (RJ G res) P_X8_leastFrom M [] [(3, .long x3)] [] 33) : ∀ (n : Nat) (M : Mem) (x0 : Nat) (x1 : Int32) (x2 : Int32) (x3 : Int64) (x5 : Int32), F_X8_leastFrom_p8 k33 n M x0 x1 x2 x3 x5 = some res → T X (RJ G res) P_X8_leastFrom M [(x0, 10)] [(0, .ref x0), (1, .int x1), (2, .int x2), (3, .long x3), (5, .int x5)] [] 8 := by
  intro n
  induction n with
  | zero =>
    intro M x0 x1 x2 x3 x5 hF
    cases hF
  | succ n ih =>
    intro M x0 x1 x2 x3 x5 hF
    unfold F_X8_leastFrom_p8 at hF
    refine r_iload (pc := 8) 4 dX8_leastFrom_8 rfl ?_
    refine r_iconst (pc := 10) (w := 3) dX8_leastFrom_10 (by decide) ?_
    refine r_icmp_gt (pc := 11) (tgt := 33) dX8_leastFrom_11 rfl hF (fun hF => ?_) (fun hF => ?_)
    · exact T.sub (hk33 M x3 hF) [] [3] rfl rfl
    · refine r_lload_n (pc := 14) 3 dX8_leastFrom_14 rfl rfl ?_
      refine r_aload_n (pc := 15) 0 dX8_leastFrom_15 rfl rfl ?_
      refine r_iload_n (pc := 16) 1 dX8_leastFrom_16 rfl rfl ?_
      refine r_iload_n (pc := 17) 2 dX8_leastFrom_17 rfl rfl ?_
      refine r_iload (pc := 18) 4 dX8_leastFrom_18 rfl ?_
      refine r_callV_J (pc := 20) (Py := P_X8_costOf) (n := 3) (As := [.int x1, .int x2, .int x5]) (fun q e => k_X8_costOf G _ x0 x1 x2 x5 q e) (c := 9) (Tb := TX8) (N := 6) rfl (by decide) (j0 := 0) rfl tw_1022 tw_1024 tw_26 tw_68 tw_1025 hd_X8_costOf ⟨Nat.le_of_ble_eq_true rfl, Nat.le_of_ble_eq_true rfl⟩ rfl [0] rfl rfl (Nat.le_of_ble_eq_true rfl) dX8_leastFrom_20 hF (fun M1 r2 hF => ?_)
      refine r_mminl (pc := 23) tw_1027 tw_434 tw_71 tw_435 ⟨Nat.le_of_ble_eq_true rfl, Nat.le_of_ble_eq_true rfl⟩ (Nat.le_of_ble_eq_true rfl) dX8_leastFrom_23 ?_
      refine r_gJ (pc := 26) hF (fun v3 hF => ?_)
      refine r_lstore_n (pc := 26) (L1 := [(3, .long v3), (0, .ref x0), (1, .int x1), (2, .int x2), (5, .int x5)]) dX8_leastFrom_26 rfl (by decide) rfl ?_
      obtain ⟨v4, e9, hF⟩ := bnd_e hF
      refine r_iinc (pc := 27) (w := v4) (k := 4) (L1 := [(5, .int v4), (3, .long v3), (0, .ref x0), (1, .int x1), (2, .int x2)]) dX8_leastFrom_27 rfl (by rw [e9]; rfl) (by decide) rfl ?_
      clear e9
      refine r_goto (pc := 30) (tgt := 8) dX8_leastFrom_30 rfl ?_
      exact T.sub (ih M1 x0 x1 x2 v3 v4 hF) [0] [2, 3, 4, 1, 0] rfl rfl
set_option maxHeartbeats 4000000 in
theorem w_X8_leastFrom_p33 {X : Option Cx} {G : EG} {res : Mem × Int64} : ∀ (M : Mem) (x3 : Int64), F_X8_leastFrom_p33 M x3 = some res → T X (RJ G res) P_X8_leastFrom M [] [(3, .long x3)] [] 33 := by
  intro M x3 hF
  unfold F_X8_leastFrom_p33 at hF
  refine r_lload_n (pc := 33) 0 dX8_leastFrom_33 rfl rfl ?_
  exact r_lret (pc := 34) dX8_leastFrom_34 hF
set_option maxHeartbeats 4000000 in
theorem w_X8_leastFrom {X : Option Cx} {G : EG} {res : Mem × Int64} (M : Mem) (a0 : Nat) (a1 : Int32) (a2 : Int32) (hF : F_X8_leastFrom M a0 a1 a2 = some res) : T X (RJ G res) P_X8_leastFrom M [(a0, 10)] [(0, .ref a0), (1, .int a1), (2, .int a2)] [] 0 := by
  unfold F_X8_leastFrom at hF
  refine r_ldc2 (pc := 0) (w := 4000000000000000000) tw_1021 dX8_leastFrom_0 ?_
  refine r_lstore_n (pc := 3) (L1 := [(3, .long ((4000000000000000000 : Int64))), (0, .ref a0), (1, .int a1), (2, .int a2)]) dX8_leastFrom_3 rfl (by decide) rfl ?_
  refine r_bipush (pc := 4) (w := -3) dX8_leastFrom_4 (by decide) ?_
  refine r_istore (pc := 6) (L1 := [(5, .int ((-3 : Int32))), (3, .long ((4000000000000000000 : Int64))), (0, .ref a0), (1, .int a1), (2, .int a2)]) dX8_leastFrom_6 (by decide) rfl ?_
  exact T.sub ((w_X8_leastFrom_p8 (w_X8_leastFrom_p33) FU) M a0 a1 a2 (4000000000000000000 : Int64) (-3 : Int32) hF) [0] [2, 3, 4, 1, 0] rfl rfl
theorem k_X8_leastFrom (G : EG) (M : Mem) (a0 : Nat) (a1 : Int32) (a2 : Int32) (q : Mem × Int64) (h : F_X8_leastFrom M a0 a1 a2 = some q) : Kt yX8_leastFrom P_X8_leastFrom M [(a0, 10)] [.ref a0, .int a1, .int a2] (RJ G q) := Kt.of (by decide +kernel) rfl (Nat.le_of_ble_eq_true rfl) rfl (fun X hz => w_X8_leastFrom M a0 a1 a2 h)
set_option maxHeartbeats 4000000 in
theorem w_X8_firstBest_p11 {X : Option Cx} {G : EG} {res : Mem × Int32} {k30 : Mem → Int32 → Option (Mem × Int32)} (hk30 : ∀ (M : Mem) (x5 : Int32), k30 M x5 = some res → T X (RI G res) P_X8_firstBest M [] [(5, .int x5)] [] 30) {k39 : Mem → Option (Mem × Int32)} (hk39 : ∀ (M : Mem), k39 M = some res → T X (RI G res) P_X8_firstBest M [] [] [] 39) : ∀ (n : Nat) (M : Mem) (x0 : Nat) (x1 : Int32) (x2 : Int32) (x3 : Int64) (x5 : Int32), F_X8_firstBest_p11 k30 k39 n M x0 x1 x2 x3 x5 = some res → T X (RI G res) P_X8_firstBest M [(x0, 10)] [(0, .ref x0), (1, .int x1), (2, .int x2), (3, .long x3), (5, .int x5)] [] 11 := by
  intro n
  induction n with
  | zero =>
    intro M x0 x1 x2 x3 x5 hF
    cases hF
  | succ n ih =>
    intro M x0 x1 x2 x3 x5 hF
    unfold F_X8_firstBest_p11 at hF
    refine r_iload (pc := 11) 4 dX8_firstBest_11 rfl ?_
    refine r_iconst (pc := 13) (w := 3) dX8_firstBest_13 (by decide) ?_
    refine r_icmp_gt (pc := 14) (tgt := 39) dX8_firstBest_14 rfl hF (fun hF => ?_) (fun hF => ?_)
    · exact T.sub (hk39 M hF) [] [] rfl rfl
    · refine r_aload_n (pc := 17) 0 dX8_firstBest_17 rfl rfl ?_
      refine r_iload_n (pc := 18) 1 dX8_firstBest_18 rfl rfl ?_
      refine r_iload_n (pc := 19) 2 dX8_firstBest_19 rfl rfl ?_
      refine r_iload (pc := 20) 4 dX8_firstBest_20 rfl ?_
      refine r_callV_J (pc := 22) (Py := P_X8_costOf) (n := 3) (As := [.int x1, .int x2, .int x5]) (fun q e => k_X8_costOf G _ x0 x1 x2 x5 q e) (c := 9) (Tb := TX8) (N := 6) rfl (by decide) (j0 := 0) rfl tw_1022 tw_1024 tw_26 tw_68 tw_1025 hd_X8_costOf ⟨Nat.le_of_ble_eq_true rfl, Nat.le_of_ble_eq_true rfl⟩ rfl [0] rfl rfl (Nat.le_of_ble_eq_true rfl) dX8_firstBest_22 hF (fun M1 r2 hF => ?_)
      refine r_lload_n (pc := 25) 3 dX8_firstBest_25 rfl rfl ?_
      refine r_lcmp (pc := 26) dX8_firstBest_26 ?_
      refine r_if_ne (pc := 27) (tgt := 33) dX8_firstBest_27 rfl hF (fun hF => ?_) (fun hF => ?_)
      · obtain ⟨v3, e9, hF⟩ := bnd_e hF
        refine r_iinc (pc := 33) (w := v3) (k := 4) (L1 := [(5, .int v3), (0, .ref x0), (1, .int x1), (2, .int x2), (3, .long x3)]) dX8_firstBest_33 rfl (by rw [e9]; rfl) (by decide) rfl ?_
        clear e9
        refine r_goto (pc := 36) (tgt := 11) dX8_firstBest_36 rfl ?_
        exact T.sub (ih M1 x0 x1 x2 x3 v3 hF) [0] [1, 2, 3, 4, 0] rfl rfl
      · exact T.sub (hk30 M1 x5 hF) [] [4] rfl rfl
set_option maxHeartbeats 4000000 in
theorem w_X8_firstBest_p30 {X : Option Cx} {G : EG} {res : Mem × Int32} : ∀ (M : Mem) (x5 : Int32), F_X8_firstBest_p30 M x5 = some res → T X (RI G res) P_X8_firstBest M [] [(5, .int x5)] [] 30 := by
  intro M x5 hF
  unfold F_X8_firstBest_p30 at hF
  refine r_iload (pc := 30) 0 dX8_firstBest_30 rfl ?_
  exact r_iret (pc := 32) dX8_firstBest_32 hF
set_option maxHeartbeats 4000000 in
theorem w_X8_firstBest_p39 {X : Option Cx} {G : EG} {res : Mem × Int32} : ∀ (M : Mem), F_X8_firstBest_p39 M = some res → T X (RI G res) P_X8_firstBest M [] [] [] 39 := by
  intro M hF
  unfold F_X8_firstBest_p39 at hF
  refine r_iconst (pc := 39) (w := 0) dX8_firstBest_39 (by decide) ?_
  exact r_iret (pc := 40) dX8_firstBest_40 hF
set_option maxHeartbeats 4000000 in
theorem w_X8_firstBest {X : Option Cx} {G : EG} {res : Mem × Int32} (M : Mem) (a0 : Nat) (a1 : Int32) (a2 : Int32) (hF : F_X8_firstBest M a0 a1 a2 = some res) : T X (RI G res) P_X8_firstBest M [(a0, 10)] [(0, .ref a0), (1, .int a1), (2, .int a2)] [] 0 := by
  unfold F_X8_firstBest at hF
  refine r_aload_n (pc := 0) 0 dX8_firstBest_0 rfl rfl ?_
  refine r_iload_n (pc := 1) 1 dX8_firstBest_1 rfl rfl ?_
  refine r_iload_n (pc := 2) 2 dX8_firstBest_2 rfl rfl ?_
  refine r_callV_J (pc := 3) (Py := P_X8_leastFrom) (n := 2) (As := [.int a1, .int a2]) (fun q e => k_X8_leastFrom G _ a0 a1 a2 q e) (c := 9) (Tb := TX8) (N := 6) rfl (by decide) (j0 := 0) rfl tw_1017 tw_1019 tw_25 tw_68 tw_1020 hd_X8_leastFrom ⟨Nat.le_of_ble_eq_true rfl, Nat.le_of_ble_eq_true rfl⟩ rfl [0] rfl rfl (Nat.le_of_ble_eq_true rfl) dX8_firstBest_3 hF (fun M1 r2 hF => ?_)
  refine r_lstore_n (pc := 6) (L1 := [(3, .long r2), (0, .ref a0), (1, .int a1), (2, .int a2)]) dX8_firstBest_6 rfl (by decide) rfl ?_
  refine r_bipush (pc := 7) (w := -3) dX8_firstBest_7 (by decide) ?_
  refine r_istore (pc := 9) (L1 := [(5, .int ((-3 : Int32))), (3, .long r2), (0, .ref a0), (1, .int a1), (2, .int a2)]) dX8_firstBest_9 (by decide) rfl ?_
  exact T.sub ((w_X8_firstBest_p11 (w_X8_firstBest_p30) (w_X8_firstBest_p39) FU) M1 a0 a1 a2 r2 (-3 : Int32) hF) [0] [2, 3, 4, 1, 0] rfl rfl
theorem k_X8_firstBest (G : EG) (M : Mem) (a0 : Nat) (a1 : Int32) (a2 : Int32) (q : Mem × Int32) (h : F_X8_firstBest M a0 a1 a2 = some q) : Kt yX8_firstBest P_X8_firstBest M [(a0, 10)] [.ref a0, .int a1, .int a2] (RI G q) := Kt.of (by decide +kernel) rfl (Nat.le_of_ble_eq_true rfl) rfl (fun X hz => w_X8_firstBest M a0 a1 a2 h)
set_option maxHeartbeats 4000000 in
theorem w_X8_plan_p2 {X : Option Cx} {G : EG} {res : Mem × Unit} {k44 : Mem → Nat → Option (Mem × Unit)} (hk44 : ∀ (M : Mem) (x0 : Nat), k44 M x0 = some res → T X (RV G res) P_X8_plan M [(x0, 10)] [(0, .ref x0)] [] 44) : ∀ (n : Nat) (M : Mem) (x0 : Nat) (x1 : Nat) (x2 : Int32) (x3 : Int32), F_X8_plan_p2 k44 n M x0 x1 x2 x3 = some res → T X (RV G res) P_X8_plan M [(x0, 10), (x1, 12)] [(0, .ref x0), (1, .ref x1), (2, .int x2), (3, .int x3)] [] 2 := by
  intro n
  induction n with
  | zero =>
    intro M x0 x1 x2 x3 hF
    cases hF
  | succ n ih =>
    intro M x0 x1 x2 x3 hF
    unfold F_X8_plan_p2 at hF
    refine r_iload_n (pc := 2) 3 dX8_plan_2 rfl rfl ?_
    refine r_bipush (pc := 3) (w := 24) dX8_plan_3 (by decide) ?_
    refine r_icmp_ge (pc := 5) (tgt := 44) dX8_plan_5 rfl hF (fun hF => ?_) (fun hF => ?_)
    · exact T.sub (hk44 M x0 hF) [0] [0] rfl rfl
    · refine r_aload_n (pc := 8) 0 dX8_plan_8 rfl rfl ?_
      refine gf_X8_19 (pc := 9) (j := 0) rfl dX8_plan_9 ?_
      refine r_lr (by decide) hF (fun b1 hF => ?_)
      refine r_iload_n (pc := 12) 3 dX8_plan_12 rfl rfl ?_
      refine r_aload_n (pc := 13) 1 dX8_plan_13 rfl rfl ?_
      refine r_iload_n (pc := 14) 2 dX8_plan_14 rfl rfl ?_
      refine r_iload_n (pc := 15) 3 dX8_plan_15 rfl rfl ?_
      refine r_iadd (pc := 16) dX8_plan_16 ?_
      refine r_callV_J (pc := 17) (Py := P_X10_needOf) (n := 1) (As := [.int (x2 + x3)]) (fun q e => k_X10_needOf G _ x1 (x2 + x3) q e) (c := 11) (Tb := TX10) (N := 4) rfl (by decide) (j0 := 2) rfl tw_1015 tw_331 tw_332 tw_61 tw_333 hd_X10_needOf ⟨Nat.le_of_ble_eq_true rfl, Nat.le_of_ble_eq_true rfl⟩ rfl [2] rfl rfl (Nat.le_of_ble_eq_true rfl) dX8_plan_17 hF (fun M2 r3 hF => ?_)
      refine r_last (pc := 20) (j := 0) rfl dX8_plan_20 hF (fun M4 hF => ?_)
      refine r_aload_n (pc := 21) 0 dX8_plan_21 rfl rfl ?_
      refine gf_X8_22 (pc := 22) (j := 1) rfl dX8_plan_22 ?_
      refine r_lr (by decide) hF (fun b5 hF => ?_)
      refine r_iload_n (pc := 25) 3 dX8_plan_25 rfl rfl ?_
      refine r_aload_n (pc := 26) 1 dX8_plan_26 rfl rfl ?_
      refine gf_X8_36 (pc := 27) (j := 3) rfl dX8_plan_27 ?_
      refine r_lr (by decide) hF (fun b6 hF => ?_)
      refine r_iload_n (pc := 30) 2 dX8_plan_30 rfl rfl ?_
      refine r_iload_n (pc := 31) 3 dX8_plan_31 rfl rfl ?_
      refine r_iadd (pc := 32) dX8_plan_32 ?_
      refine r_callSN_I (pc := 33) (Py := P_X11_inRound) (n := 2) (As := [.ref b6, .int (x2 + x3)]) (fun q e => k_X11_inRound G _ b6 (x2 + x3) q e) tw_1016 tw_335 tw_60 tw_336 hd_X11_inRound ⟨Nat.le_of_ble_eq_true rfl, Nat.le_of_ble_eq_true rfl⟩ rfl [0] rfl rfl (Nat.le_of_ble_eq_true rfl) dX8_plan_33 hF (fun M7 r8 hF => ?_)
      refine r_i2l (pc := 36) dX8_plan_36 ?_
      refine r_last (pc := 37) (j := 1) rfl dX8_plan_37 hF (fun M9 hF => ?_)
      obtain ⟨v10, e9, hF⟩ := bnd_e hF
      refine r_iinc (pc := 38) (w := v10) (k := 3) (L1 := [(3, .int v10), (0, .ref x0), (1, .ref x1), (2, .int x2)]) dX8_plan_38 rfl (by rw [e9]; rfl) (by decide) rfl ?_
      clear e9
      refine r_goto (pc := 41) (tgt := 2) dX8_plan_41 rfl ?_
      exact T.sub (ih M9 x0 x1 x2 v10 hF) [3, 4] [1, 2, 3, 0] rfl rfl
set_option maxHeartbeats 4000000 in
theorem w_X8_plan_p54 {X : Option Cx} {G : EG} {res : Mem × Unit} {k92 : Mem → Nat → Int32 → Option (Mem × Unit)} (hk92 : ∀ (M : Mem) (x0 : Nat) (x3 : Int32), k92 M x0 x3 = some res → T X (RV G res) P_X8_plan M [(x0, 10)] [(0, .ref x0), (3, .int x3)] [] 92) : ∀ (n : Nat) (M : Mem) (x0 : Nat) (x3 : Int32) (x4 : Int32), F_X8_plan_p54 k92 n M x0 x3 x4 = some res → T X (RV G res) P_X8_plan M [(x0, 10)] [(0, .ref x0), (3, .int x3), (4, .int x4)] [] 54 := by
  intro n
  induction n with
  | zero =>
    intro M x0 x3 x4 hF
    cases hF
  | succ n ih =>
    intro M x0 x3 x4 hF
    unfold F_X8_plan_p54 at hF
    refine r_iload (pc := 54) 2 dX8_plan_54 rfl ?_
    refine r_aload_n (pc := 56) 0 dX8_plan_56 rfl rfl ?_
    refine gf_X8_43 (pc := 57) (j := 0) rfl dX8_plan_57 ?_
    refine r_icmp_gt (pc := 60) (tgt := 92) dX8_plan_60 rfl hF (fun hF => ?_) (fun hF => ?_)
    · exact T.sub (hk92 M x0 x3 hF) [0] [0, 1] rfl rfl
    · refine r_iload (pc := 63) 2 dX8_plan_63 rfl ?_
      refine r_bipush (pc := 65) (w := 9) dX8_plan_65 (by decide) ?_
      refine r_icmp_gt (pc := 67) (tgt := 92) dX8_plan_67 rfl hF (fun hF => ?_) (fun hF => ?_)
      · exact T.sub (hk92 M x0 x3 hF) [0] [0, 1] rfl rfl
      · refine r_aload_n (pc := 70) 0 dX8_plan_70 rfl rfl ?_
        refine gf_X8_27 (pc := 71) (j := 0) rfl dX8_plan_71 ?_
        refine r_lr (by decide) hF (fun b1 hF => ?_)
        refine r_iload_n (pc := 74) 1 dX8_plan_74 rfl rfl ?_
        refine r_aaldJ (pc := 75) (j := 0) rfl dX8_plan_75 hF (fun hF => ?_)
        refine r_lr (by decide) hF (fun b2 hF => ?_)
        refine r_iload (pc := 76) 2 dX8_plan_76 rfl ?_
        refine r_aload_n (pc := 78) 0 dX8_plan_78 rfl rfl ?_
        refine r_iload_n (pc := 79) 1 dX8_plan_79 rfl rfl ?_
        refine r_iload (pc := 80) 2 dX8_plan_80 rfl ?_
        refine r_callV_J (pc := 82) (Py := P_X8_leastFrom) (n := 2) (As := [.int x3, .int x4]) (fun q e => k_X8_leastFrom G _ x0 x3 x4 q e) (c := 9) (Tb := TX8) (N := 6) rfl (by decide) (j0 := 2) rfl tw_1017 tw_1019 tw_25 tw_68 tw_1020 hd_X8_leastFrom ⟨Nat.le_of_ble_eq_true rfl, Nat.le_of_ble_eq_true rfl⟩ rfl [2] rfl rfl (Nat.le_of_ble_eq_true rfl) dX8_plan_82 hF (fun M3 r4 hF => ?_)
        refine r_last (pc := 85) (j := 0) rfl dX8_plan_85 hF (fun M5 hF => ?_)
        obtain ⟨v6, e9, hF⟩ := bnd_e hF
        refine r_iinc (pc := 86) (w := v6) (k := 2) (L1 := [(4, .int v6), (0, .ref x0), (3, .int x3)]) dX8_plan_86 rfl (by rw [e9]; rfl) (by decide) rfl ?_
        clear e9
        refine r_goto (pc := 89) (tgt := 54) dX8_plan_89 rfl ?_
        exact T.sub (ih M5 x0 x3 v6 hF) [2] [1, 2, 0] rfl rfl
set_option maxHeartbeats 4000000 in
theorem w_X8_plan_p92 {X : Option Cx} {G : EG} {res : Mem × Unit} {k47 : Mem → Nat → Int32 → Option (Mem × Unit)} (hk47 : ∀ (M : Mem) (x0 : Nat) (x3 : Int32), k47 M x0 x3 = some res → T X (RV G res) P_X8_plan M [(x0, 10)] [(0, .ref x0), (3, .int x3)] [] 47) : ∀ (M : Mem) (x0 : Nat) (x3 : Int32), F_X8_plan_p92 k47 M x0 x3 = some res → T X (RV G res) P_X8_plan M [(x0, 10)] [(0, .ref x0), (3, .int x3)] [] 92 := by
  intro M x0 x3 hF
  unfold F_X8_plan_p92 at hF
  obtain ⟨v1, e9, hF⟩ := bnd_e hF
  refine r_iinc (pc := 92) (w := v1) (k := 1) (L1 := [(3, .int v1), (0, .ref x0)]) dX8_plan_92 rfl (by rw [e9]; rfl) (by decide) rfl ?_
  clear e9
  refine r_goto (pc := 95) (tgt := 47) dX8_plan_95 rfl ?_
  exact T.sub (hk47 M x0 v1 hF) [0] [1, 0] rfl rfl
set_option maxHeartbeats 4000000 in
theorem w_X8_plan_p47 {X : Option Cx} {G : EG} {res : Mem × Unit} {k98 : Mem → Nat → Option (Mem × Unit)} (hk98 : ∀ (M : Mem) (x0 : Nat), k98 M x0 = some res → T X (RV G res) P_X8_plan M [(x0, 10)] [(0, .ref x0)] [] 98) : ∀ (n : Nat) (M : Mem) (x0 : Nat) (x3 : Int32), F_X8_plan_p47 k98 n M x0 x3 = some res → T X (RV G res) P_X8_plan M [(x0, 10)] [(0, .ref x0), (3, .int x3)] [] 47 := by
  intro n
  induction n with
  | zero =>
    intro M x0 x3 hF
    cases hF
  | succ n ih =>
    intro M x0 x3 hF
    unfold F_X8_plan_p47 at hF
    refine r_iload_n (pc := 47) 1 dX8_plan_47 rfl rfl ?_
    refine r_if_lt (pc := 48) (tgt := 98) dX8_plan_48 rfl hF (fun hF => ?_) (fun hF => ?_)
    · exact T.sub (hk98 M x0 hF) [0] [0] rfl rfl
    · refine r_iconst (pc := 51) (w := 0) dX8_plan_51 (by decide) ?_
      refine r_istore (pc := 52) (L1 := [(4, .int ((0 : Int32))), (0, .ref x0), (3, .int x3)]) dX8_plan_52 (by decide) rfl ?_
      exact T.sub ((w_X8_plan_p54 (w_X8_plan_p92 ih) FU) M x0 x3 (0 : Int32) hF) [0] [1, 2, 0] rfl rfl
set_option maxHeartbeats 4000000 in
theorem w_X8_plan_p103 {X : Option Cx} {G : EG} {res : Mem × Unit} {k154 : Mem → Option (Mem × Unit)} (hk154 : ∀ (M : Mem), k154 M = some res → T X (RV G res) P_X8_plan M [] [] [] 154) : ∀ (n : Nat) (M : Mem) (x0 : Nat) (x3 : Int32) (x4 : Int32), F_X8_plan_p103 k154 n M x0 x3 x4 = some res → T X (RV G res) P_X8_plan M [(x0, 10)] [(0, .ref x0), (3, .int x3), (4, .int x4)] [] 103 := by
  intro n
  induction n with
  | zero =>
    intro M x0 x3 x4 hF
    cases hF
  | succ n ih =>
    intro M x0 x3 x4 hF
    unfold F_X8_plan_p103 at hF
    refine r_iload (pc := 103) 2 dX8_plan_103 rfl ?_
    refine r_bipush (pc := 105) (w := 24) dX8_plan_105 (by decide) ?_
    refine r_icmp_ge (pc := 107) (tgt := 154) dX8_plan_107 rfl hF (fun hF => ?_) (fun hF => ?_)
    · exact T.sub (hk154 M hF) [] [] rfl rfl
    · refine r_aload_n (pc := 110) 0 dX8_plan_110 rfl rfl ?_
      refine r_iload (pc := 111) 2 dX8_plan_111 rfl ?_
      refine r_iload_n (pc := 113) 1 dX8_plan_113 rfl rfl ?_
      refine r_callV_I (pc := 114) (Py := P_X8_firstBest) (n := 2) (As := [.int x4, .int x3]) (fun q e => k_X8_firstBest G _ x0 x4 x3 q e) (c := 9) (Tb := TX8) (N := 6) rfl (by decide) (j0 := 0) rfl tw_1028 tw_1030 tw_27 tw_68 tw_1031 hd_X8_firstBest ⟨Nat.le_of_ble_eq_true rfl, Nat.le_of_ble_eq_true rfl⟩ rfl [0] rfl rfl (Nat.le_of_ble_eq_true rfl) dX8_plan_114 hF (fun M1 r2 hF => ?_)
      refine r_istore (pc := 117) (L1 := [(5, .int r2), (0, .ref x0), (3, .int x3), (4, .int x4)]) dX8_plan_117 (by decide) rfl ?_
      refine r_aload_n (pc := 119) 1 dX8_plan_119 rfl rfl ?_
      refine gf_X8_15 (pc := 120) (j := 0) rfl dX8_plan_120 ?_
      refine r_lr (by decide) hF (fun b3 hF => ?_)
      refine r_iload (pc := 123) 3 dX8_plan_123 rfl ?_
      refine r_aload_n (pc := 125) 1 dX8_plan_125 rfl rfl ?_
      refine gf_X8_19 (pc := 126) (j := 1) rfl dX8_plan_126 ?_
      refine r_lr (by decide) hF (fun b4 hF => ?_)
      refine r_iload (pc := 129) 3 dX8_plan_129 rfl ?_
      refine r_lald (pc := 131) (j := 0) rfl dX8_plan_131 hF (fun hF => ?_)
      refine r_iload (pc := 132) 0 dX8_plan_132 rfl ?_
      refine r_i2l (pc := 134) dX8_plan_134 ?_
      refine r_aload_n (pc := 135) 1 dX8_plan_135 rfl rfl ?_
      refine gf_X8_9 (pc := 136) (j := 2) rfl dX8_plan_136 ?_
      refine r_i2l (pc := 139) dX8_plan_139 ?_
      refine r_lmul (pc := 140) dX8_plan_140 ?_
      refine r_ladd (pc := 141) dX8_plan_141 ?_
      refine r_last (pc := 142) (j := 1) rfl dX8_plan_142 hF (fun M5 hF => ?_)
      refine r_iload_n (pc := 143) 2 dX8_plan_143 rfl rfl ?_
      refine r_iload (pc := 144) 0 dX8_plan_144 rfl ?_
      refine r_iadd (pc := 146) dX8_plan_146 ?_
      refine r_gI (pc := 147) hF (fun v6 hF => ?_)
      refine r_istore_n (pc := 147) (L1 := [(3, .int v6), (5, .int r2), (0, .ref x0), (4, .int x4)]) dX8_plan_147 rfl (by decide) rfl ?_
      obtain ⟨v7, e9, hF⟩ := bnd_e hF
      refine r_iinc (pc := 148) (w := v7) (k := 3) (L1 := [(4, .int v7), (3, .int v6), (5, .int r2), (0, .ref x0)]) dX8_plan_148 rfl (by rw [e9]; rfl) (by decide) rfl ?_
      clear e9
      refine r_goto (pc := 151) (tgt := 103) dX8_plan_151 rfl ?_
      exact T.sub (ih M5 x0 v6 v7 hF) [2] [3, 1, 0] rfl rfl
set_option maxHeartbeats 4000000 in
theorem w_X8_plan_p154 {X : Option Cx} {G : EG} {res : Mem × Unit} : ∀ (M : Mem), F_X8_plan_p154 M = some res → T X (RV G res) P_X8_plan M [] [] [] 154 := by
  intro M hF
  unfold F_X8_plan_p154 at hF
  exact r_vret (pc := 154) dX8_plan_154 hF
set_option maxHeartbeats 4000000 in
theorem w_X8_plan_p98 {X : Option Cx} {G : EG} {res : Mem × Unit} : ∀ (M : Mem) (x0 : Nat), F_X8_plan_p98 M x0 = some res → T X (RV G res) P_X8_plan M [(x0, 10)] [(0, .ref x0)] [] 98 := by
  intro M x0 hF
  unfold F_X8_plan_p98 at hF
  refine r_iconst (pc := 98) (w := 0) dX8_plan_98 (by decide) ?_
  refine r_istore_n (pc := 99) (L1 := [(3, .int ((0 : Int32))), (0, .ref x0)]) dX8_plan_99 rfl (by decide) rfl ?_
  refine r_iconst (pc := 100) (w := 0) dX8_plan_100 (by decide) ?_
  refine r_istore (pc := 101) (L1 := [(4, .int ((0 : Int32))), (3, .int ((0 : Int32))), (0, .ref x0)]) dX8_plan_101 (by decide) rfl ?_
  exact T.sub ((w_X8_plan_p103 (w_X8_plan_p154) FU) M x0 (0 : Int32) (0 : Int32) hF) [0] [2, 1, 0] rfl rfl
set_option maxHeartbeats 4000000 in
theorem w_X8_plan_p44 {X : Option Cx} {G : EG} {res : Mem × Unit} : ∀ (M : Mem) (x0 : Nat), F_X8_plan_p44 M x0 = some res → T X (RV G res) P_X8_plan M [(x0, 10)] [(0, .ref x0)] [] 44 := by
  intro M x0 hF
  unfold F_X8_plan_p44 at hF
  refine r_bipush (pc := 44) (w := 23) dX8_plan_44 (by decide) ?_
  refine r_istore_n (pc := 46) (L1 := [(3, .int ((23 : Int32))), (0, .ref x0)]) dX8_plan_46 rfl (by decide) rfl ?_
  exact T.sub ((w_X8_plan_p47 (w_X8_plan_p98) FU) M x0 (23 : Int32) hF) [0] [1, 0] rfl rfl
set_option maxHeartbeats 4000000 in
theorem w_X8_plan {X : Option Cx} {G : EG} {res : Mem × Unit} (M : Mem) (a0 : Nat) (a1 : Nat) (a2 : Int32) (hF : F_X8_plan M a0 a1 a2 = some res) : T X (RV G res) P_X8_plan M [(a0, 10), (a1, 12)] [(0, .ref a0), (1, .ref a1), (2, .int a2)] [] 0 := by
  unfold F_X8_plan at hF
  refine r_iconst (pc := 0) (w := 0) dX8_plan_0 (by decide) ?_
  refine r_istore_n (pc := 1) (L1 := [(3, .int ((0 : Int32))), (0, .ref a0), (1, .ref a1), (2, .int a2)]) dX8_plan_1 rfl (by decide) rfl ?_
  exact T.sub ((w_X8_plan_p2 (w_X8_plan_p44) FU) M a0 a1 a2 (0 : Int32) hF) [0, 1] [1, 2, 3, 0] rfl rfl
theorem k_X8_plan (G : EG) (M : Mem) (a0 : Nat) (a1 : Nat) (a2 : Int32) (q : Mem × Unit) (h : F_X8_plan M a0 a1 a2 = some q) : Kt yX8_plan P_X8_plan M [(a0, 10), (a1, 12)] [.ref a0, .ref a1, .int a2] (RV G q) := Kt.of (by decide +kernel) rfl (Nat.le_of_ble_eq_true rfl) rfl (fun X hz => w_X8_plan M a0 a1 a2 h)
set_option maxHeartbeats 4000000 in
theorem w_X11_best_p10 {X : Option Cx} {G : EG} {res : Mem × Int64} : ∀ (M : Mem) (x0 : Nat), F_X11_best_p10 M x0 = some res → T X (RJ G res) P_X11_best M [(x0, 13)] [(0, .ref x0)] [] 10 := by
  intro M x0 hF
  unfold F_X11_best_p10 at hF
  refine r_aload_n (pc := 10) 0 dX11_best_10 rfl rfl ?_
  refine r_bipush (pc := 11) (w := -2) dX11_best_11 (by decide) ?_
  refine r_callV_J (pc := 13) (Py := P_X11_refuseLong) (n := 1) (As := [.int ((-2 : Int32))]) (fun q e => k_X11_refuseLong G _ x0 (-2 : Int32) q e) (c := 12) (Tb := TX11) (N := 11) rfl (by decide) (j0 := 0) rfl tw_646 tw_648 tw_10 tw_60 tw_649 hd_X11_refuseLong ⟨Nat.le_of_ble_eq_true rfl, Nat.le_of_ble_eq_true rfl⟩ rfl [0] rfl rfl (Nat.le_of_ble_eq_true rfl) dX11_best_13 hF (fun M1 r2 hF => ?_)
  exact r_lret (pc := 16) dX11_best_16 hF
set_option maxHeartbeats 4000000 in
theorem w_X11_best_p66 {X : Option Cx} {G : EG} {res : Mem × Int64} : ∀ (M : Mem) (y0 : Int64), F_X11_best_p66 M y0 = some res → T X (RJ G res) P_X11_best M [] [] [.long y0] 66 := by
  intro M y0 hF
  unfold F_X11_best_p66 at hF
  exact r_lret (pc := 66) dX11_best_66 hF
set_option maxHeartbeats 4000000 in
theorem w_X11_best {X : Option Cx} {G : EG} {res : Mem × Int64} (M : Mem) (a0 : Nat) (a1 : Int32) (hF : F_X11_best M a0 a1 = some res) : T X (RJ G res) P_X11_best M [(a0, 13)] [(0, .ref a0), (1, .int a1)] [] 0 := by
  unfold F_X11_best at hF
  refine r_iload_n (pc := 0) 1 dX11_best_0 rfl rfl ?_
  refine r_if_lt (pc := 1) (tgt := 10) dX11_best_1 rfl hF (fun hF => ?_) (fun hF => ?_)
  · exact T.sub ((w_X11_best_p10) M a0 hF) [0] [0] rfl rfl
  · refine r_iload_n (pc := 4) 1 dX11_best_4 rfl rfl ?_
    refine r_bipush (pc := 5) (w := 24) dX11_best_5 (by decide) ?_
    refine r_icmp_le (pc := 7) (tgt := 17) dX11_best_7 rfl hF (fun hF => ?_) (fun hF => ?_)
    · refine r_aload_n (pc := 17) 0 dX11_best_17 rfl rfl ?_
      refine gf_X11_40 (pc := 18) (j := 0) rfl dX11_best_18 ?_
      refine r_lr (by decide) hF (fun b1 hF => ?_)
      refine r_aload_n (pc := 21) 0 dX11_best_21 rfl rfl ?_
      refine gf_X11_10 (pc := 22) (j := 1) rfl dX11_best_22 ?_
      refine r_lr (by decide) hF (fun b2 hF => ?_)
      refine r_aload_n (pc := 25) 0 dX11_best_25 rfl rfl ?_
      refine gf_X11_49 (pc := 26) (j := 2) rfl dX11_best_26 ?_
      refine r_lr (by decide) hF (fun b3 hF => ?_)
      refine gf_X11_67 (pc := 29) (j := 0) rfl dX11_best_29 ?_
      refine r_callV_V (pc := 32) (Py := P_X8_plan) (n := 2) (As := [.ref b2, .int (gI M 206 b3)]) (fun q e => k_X8_plan G _ b1 b2 (gI M 206 b3) q e) (c := 9) (Tb := TX8) (N := 6) rfl (by decide) (j0 := 2) rfl tw_1011 tw_1012 tw_1013 tw_68 tw_1014 hd_X8_plan ⟨Nat.le_of_ble_eq_true rfl, Nat.le_of_ble_eq_true rfl⟩ rfl [2, 1] rfl rfl (Nat.le_of_ble_eq_true rfl) dX11_best_32 hF (fun M4 r5 hF => ?_)
      refine r_iload_n (pc := 35) 1 dX11_best_35 rfl rfl ?_
      refine r_aload_n (pc := 36) 0 dX11_best_36 rfl rfl ?_
      refine gf_X11_40 (pc := 37) (j := 3) rfl dX11_best_37 ?_
      refine r_lr (by decide) hF (fun b6 hF => ?_)
      refine gf_X11_282 (pc := 40) (j := 0) rfl dX11_best_40 ?_
      refine r_lr (by decide) hF (fun b7 hF => ?_)
      refine r_alen (pc := 43) (j := 0) rfl (by decide) dX11_best_43 ?_
      refine r_icmp_ge (pc := 44) (tgt := 59) dX11_best_44 rfl hF (fun hF => ?_) (fun hF => ?_)
      · refine r_aload_n (pc := 59) 0 dX11_best_59 rfl rfl ?_
        refine gf_X11_40 (pc := 60) (j := 5) rfl dX11_best_60 ?_
        refine r_lr (by decide) hF (fun b8 hF => ?_)
        refine r_callV_J (pc := 63) (Py := P_X8_leastCost) (n := 0) (As := []) (fun q e => k_X8_leastCost G _ b8 q e) (c := 9) (Tb := TX8) (N := 6) rfl (by decide) (j0 := 0) rfl tw_1032 tw_1033 tw_1034 tw_68 tw_1035 hd_X8_leastCost ⟨Nat.le_of_ble_eq_true rfl, Nat.le_of_ble_eq_true rfl⟩ rfl [0] rfl rfl (Nat.le_of_ble_eq_true rfl) dX11_best_63 hF (fun M9 r10 hF => ?_)
        exact T.sub ((w_X11_best_p66) M9 r10 hF) [] [] rfl rfl
      · refine r_aload_n (pc := 47) 0 dX11_best_47 rfl rfl ?_
        refine gf_X11_40 (pc := 48) (j := 5) rfl dX11_best_48 ?_
        refine r_lr (by decide) hF (fun b11 hF => ?_)
        refine gf_X11_282 (pc := 51) (j := 0) rfl dX11_best_51 ?_
        refine r_lr (by decide) hF (fun b12 hF => ?_)
        refine r_iload_n (pc := 54) 1 dX11_best_54 rfl rfl ?_
        refine r_lald (pc := 55) (j := 0) rfl dX11_best_55 hF (fun hF => ?_)
        refine r_goto (pc := 56) (tgt := 66) dX11_best_56 rfl ?_
        exact T.sub ((w_X11_best_p66) M4 (gB M4 b12 (ixn a1)) hF) [] [] rfl rfl
    · exact T.sub ((w_X11_best_p10) M a0 hF) [0] [0] rfl rfl
theorem k_X11_best (G : EG) (M : Mem) (a0 : Nat) (a1 : Int32) (q : Mem × Int64) (h : F_X11_best M a0 a1 = some q) : Kt yX11_best P_X11_best M [(a0, 13)] [.ref a0, .int a1] (RJ G q) := Kt.of (by decide +kernel) rfl (Nat.le_of_ble_eq_true rfl) rfl (fun X hz => w_X11_best M a0 a1 h)
set_option maxHeartbeats 4000000 in
theorem w_X11_bore_p25 {X : Option Cx} {G : EG} {res : Mem × Int32} : ∀ (M : Mem) (x0 : Nat), F_X11_bore_p25 M x0 = some res → T X (RI G res) P_X11_bore M [(x0, 13)] [(0, .ref x0)] [] 25 := by
  intro M x0 hF
  unfold F_X11_bore_p25 at hF
  refine r_aload_n (pc := 25) 0 dX11_bore_25 rfl rfl ?_
  refine r_bipush (pc := 26) (w := -4) dX11_bore_26 (by decide) ?_
  refine r_callV_I (pc := 28) (Py := P_X11_refuse) (n := 1) (As := [.int ((-4 : Int32))]) (fun q e => k_X11_refuse G _ x0 (-4 : Int32) q e) (c := 12) (Tb := TX11) (N := 11) rfl (by decide) (j0 := 0) rfl tw_322 tw_324 tw_0 tw_60 tw_325 hd_X11_refuse ⟨Nat.le_of_ble_eq_true rfl, Nat.le_of_ble_eq_true rfl⟩ rfl [0] rfl rfl (Nat.le_of_ble_eq_true rfl) dX11_bore_28 hF (fun M1 r2 hF => ?_)
  exact r_iret (pc := 31) dX11_bore_31 hF
set_option maxHeartbeats 4000000 in
theorem w_X11_bore_p86 {X : Option Cx} {G : EG} {res : Mem × Int32} : ∀ (M : Mem) (x0 : Nat), F_X11_bore_p86 M x0 = some res → T X (RI G res) P_X11_bore M [(x0, 13)] [(0, .ref x0)] [] 86 := by
  intro M x0 hF
  unfold F_X11_bore_p86 at hF
  refine r_aload_n (pc := 86) 0 dX11_bore_86 rfl rfl ?_
  refine r_bipush (pc := 87) (w := -6) dX11_bore_87 (by decide) ?_
  refine r_callV_I (pc := 89) (Py := P_X11_refuse) (n := 1) (As := [.int ((-6 : Int32))]) (fun q e => k_X11_refuse G _ x0 (-6 : Int32) q e) (c := 12) (Tb := TX11) (N := 11) rfl (by decide) (j0 := 0) rfl tw_322 tw_324 tw_0 tw_60 tw_325 hd_X11_refuse ⟨Nat.le_of_ble_eq_true rfl, Nat.le_of_ble_eq_true rfl⟩ rfl [0] rfl rfl (Nat.le_of_ble_eq_true rfl) dX11_bore_89 hF (fun M1 r2 hF => ?_)
  exact r_iret (pc := 92) dX11_bore_92 hF
set_option maxHeartbeats 4000000 in
theorem w_X11_bore {X : Option Cx} {G : EG} {res : Mem × Int32} (M : Mem) (a0 : Nat) (a1 : Int32) (a2 : Int32) (a3 : Int32) (a4 : Int32) (a5 : Int32) (hF : F_X11_bore M a0 a1 a2 a3 a4 a5 = some res) : T X (RI G res) P_X11_bore M [(a0, 13)] [(0, .ref a0), (1, .int a1), (2, .int a2), (3, .int a3), (4, .int a4), (5, .int a5)] [] 0 := by
  unfold F_X11_bore at hF
  refine r_iload_n (pc := 0) 1 dX11_bore_0 rfl rfl ?_
  refine r_if_lt (pc := 1) (tgt := 25) dX11_bore_1 rfl hF (fun hF => ?_) (fun hF => ?_)
  · exact T.sub ((w_X11_bore_p25) M a0 hF) [0] [0] rfl rfl
  · refine r_iload_n (pc := 4) 2 dX11_bore_4 rfl rfl ?_
    refine r_iconst (pc := 5) (w := 1) dX11_bore_5 (by decide) ?_
    refine r_icmp_lt (pc := 6) (tgt := 25) dX11_bore_6 rfl hF (fun hF => ?_) (fun hF => ?_)
    · exact T.sub ((w_X11_bore_p25) M a0 hF) [0] [0] rfl rfl
    · refine r_iload_n (pc := 9) 3 dX11_bore_9 rfl rfl ?_
      refine r_bipush (pc := 10) (w := 100) dX11_bore_10 (by decide) ?_
      refine r_icmp_lt (pc := 12) (tgt := 25) dX11_bore_12 rfl hF (fun hF => ?_) (fun hF => ?_)
      · exact T.sub ((w_X11_bore_p25) M a0 hF) [0] [0] rfl rfl
      · refine r_iload (pc := 15) 4 dX11_bore_15 rfl ?_
        refine r_if_lt (pc := 17) (tgt := 25) dX11_bore_17 rfl hF (fun hF => ?_) (fun hF => ?_)
        · exact T.sub ((w_X11_bore_p25) M a0 hF) [0] [0] rfl rfl
        · refine r_iload (pc := 20) 5 dX11_bore_20 rfl ?_
          refine r_if_ge (pc := 22) (tgt := 32) dX11_bore_22 rfl hF (fun hF => ?_) (fun hF => ?_)
          · refine r_aload_n (pc := 32) 0 dX11_bore_32 rfl rfl ?_
            refine gf_X11_49 (pc := 33) (j := 0) rfl dX11_bore_33 ?_
            refine r_lr (by decide) hF (fun b1 hF => ?_)
            refine gf_X11_82 (pc := 36) (j := 0) rfl dX11_bore_36 ?_
            refine r_lr (by decide) hF (fun b2 hF => ?_)
            refine r_callV_I (pc := 39) (Py := P_Jx4a65c_size_8abf5) (n := 0) (As := []) (fun q e => k_Jx4a65c_size_8abf5 G _ b2 q e) (c := 0) (Tb := TJx4a65c) (N := 3) rfl (by decide) (j0 := 0) rfl tw_470 tw_344 tw_345 tw_64 tw_346 hd_Jx4a65c_size_8abf5 ⟨Nat.le_of_ble_eq_true rfl, Nat.le_of_ble_eq_true rfl⟩ rfl [0] rfl rfl (Nat.le_of_ble_eq_true rfl) dX11_bore_39 hF (fun M3 r4 hF => ?_)
            refine r_istore (pc := 42) (L1 := [(6, .int r4), (0, .ref a0), (1, .int a1), (2, .int a2), (3, .int a3), (4, .int a4), (5, .int a5)]) dX11_bore_42 (by decide) rfl ?_
            refine r_iload_n (pc := 44) 2 dX11_bore_44 rfl rfl ?_
            refine r_sipush (pc := 45) (w := 9999) dX11_bore_45 (by decide) ?_
            refine r_icmp_gt (pc := 48) (tgt := 86) dX11_bore_48 rfl hF (fun hF => ?_) (fun hF => ?_)
            · exact T.sub ((w_X11_bore_p86) M3 a0 hF) [2] [1] rfl rfl
            · refine r_iload_n (pc := 51) 3 dX11_bore_51 rfl rfl ?_
              refine r_bipush (pc := 52) (w := 8) dX11_bore_52 (by decide) ?_
              refine r_icmp_gt (pc := 54) (tgt := 86) dX11_bore_54 rfl hF (fun hF => ?_) (fun hF => ?_)
              · exact T.sub ((w_X11_bore_p86) M3 a0 hF) [2] [1] rfl rfl
              · refine r_iload_n (pc := 57) 4 dX11_bore_57 rfl rfl ?_
                refine r_sipush (pc := 58) (w := 9999) dX11_bore_58 (by decide) ?_
                refine r_icmp_gt (pc := 61) (tgt := 86) dX11_bore_61 rfl hF (fun hF => ?_) (fun hF => ?_)
                · exact T.sub ((w_X11_bore_p86) M3 a0 hF) [2] [1] rfl rfl
                · refine r_iload (pc := 64) 5 dX11_bore_64 rfl ?_
                  refine r_sipush (pc := 66) (w := 999) dX11_bore_66 (by decide) ?_
                  refine r_icmp_gt (pc := 69) (tgt := 86) dX11_bore_69 rfl hF (fun hF => ?_) (fun hF => ?_)
                  · exact T.sub ((w_X11_bore_p86) M3 a0 hF) [2] [1] rfl rfl
                  · refine r_iload (pc := 72) 6 dX11_bore_72 rfl ?_
                    refine r_bipush (pc := 74) (w := 99) dX11_bore_74 (by decide) ?_
                    refine r_icmp_gt (pc := 76) (tgt := 86) dX11_bore_76 rfl hF (fun hF => ?_) (fun hF => ?_)
                    · exact T.sub ((w_X11_bore_p86) M3 a0 hF) [2] [1] rfl rfl
                    · refine r_iload (pc := 79) 0 dX11_bore_79 rfl ?_
                      refine r_bipush (pc := 81) (w := 8) dX11_bore_81 (by decide) ?_
                      refine r_icmp_lt (pc := 83) (tgt := 93) dX11_bore_83 rfl hF (fun hF => ?_) (fun hF => ?_)
                      · refine r_aload_n (pc := 93) 1 dX11_bore_93 rfl rfl ?_
                        refine gf_X11_49 (pc := 94) (j := 2) rfl dX11_bore_94 ?_
                        refine r_lr (by decide) hF (fun b5 hF => ?_)
                        refine gf_X11_82 (pc := 97) (j := 0) rfl dX11_bore_97 ?_
                        refine r_lr (by decide) hF (fun b6 hF => ?_)
                        refine r_new (pc := 100) (c := 1) (N := 11) tin_X0 tyX0 tyX0_ok rfl rfl (by decide) tw_471 tw_472 tw_74 (by decide +kernel) dX11_bore_100 hF (fun b7 M8 hF => ?_)
                        refine r_dup (pc := 103) dX11_bore_103 rfl ?_
                        refine r_iload (pc := 104) 0 dX11_bore_104 rfl ?_
                        refine r_iload_n (pc := 106) 2 dX11_bore_106 rfl rfl ?_
                        refine r_iload_n (pc := 107) 3 dX11_bore_107 rfl rfl ?_
                        refine r_iload_n (pc := 108) 4 dX11_bore_108 rfl rfl ?_
                        refine r_iload (pc := 109) 5 dX11_bore_109 rfl ?_
                        refine r_iload (pc := 111) 6 dX11_bore_111 rfl ?_
                        refine r_callI_V (pc := 113) (Py := P_X0_init) (n := 6) (As := [.int r4, .int a1, .int a2, .int a3, .int a4, .int a5]) (fun q e => k_X0_init G _ b7 r4 a1 a2 a3 a4 a5 q e) tw_473 tw_474 tw_74 tw_475 rfl rfl hd_X0_init ⟨Nat.le_of_ble_eq_true rfl, Nat.le_of_ble_eq_true rfl⟩ rfl [0] rfl rfl (Nat.le_of_ble_eq_true rfl) dX11_bore_113 hF (fun M9 r10 hF => ?_)
                        refine r_callV_I (pc := 116) (Py := P_Jx4a65c_add_9ea2d) (n := 1) (As := [.ref b7]) (fun q e => k_Jx4a65c_add_9ea2d G _ b6 b7 q e) (c := 0) (Tb := TJx4a65c) (N := 3) rfl (by decide) (j0 := 1) rfl tw_619 tw_513 tw_514 tw_64 tw_515 hd_Jx4a65c_add_9ea2d ⟨Nat.le_of_ble_eq_true rfl, Nat.le_of_ble_eq_true rfl⟩ rfl [1] rfl rfl (Nat.le_of_ble_eq_true rfl) dX11_bore_116 hF (fun M11 r12 hF => ?_)
                        refine r_pop (pc := 119) dX11_bore_119 rfl ?_
                        refine r_aload_n (pc := 120) 1 dX11_bore_120 rfl rfl ?_
                        refine gf_X11_53 (pc := 121) (j := 5) rfl dX11_bore_121 ?_
                        refine r_lr (by decide) hF (fun b13 hF => ?_)
                        refine gf_X11_82 (pc := 124) (j := 0) rfl dX11_bore_124 ?_
                        refine r_lr (by decide) hF (fun b14 hF => ?_)
                        refine r_new (pc := 127) (c := 1) (N := 11) tin_X0 tyX0 tyX0_ok rfl rfl (by decide) tw_471 tw_472 tw_74 (by decide +kernel) dX11_bore_127 hF (fun b15 M16 hF => ?_)
                        refine r_dup (pc := 130) dX11_bore_130 rfl ?_
                        refine r_iload (pc := 131) 0 dX11_bore_131 rfl ?_
                        refine r_iload_n (pc := 133) 2 dX11_bore_133 rfl rfl ?_
                        refine r_iload_n (pc := 134) 3 dX11_bore_134 rfl rfl ?_
                        refine r_iload_n (pc := 135) 4 dX11_bore_135 rfl rfl ?_
                        refine r_iload (pc := 136) 5 dX11_bore_136 rfl ?_
                        refine r_iload (pc := 138) 6 dX11_bore_138 rfl ?_
                        refine r_callI_V (pc := 140) (Py := P_X0_init) (n := 6) (As := [.int r4, .int a1, .int a2, .int a3, .int a4, .int a5]) (fun q e => k_X0_init G _ b15 r4 a1 a2 a3 a4 a5 q e) tw_473 tw_474 tw_74 tw_475 rfl rfl hd_X0_init ⟨Nat.le_of_ble_eq_true rfl, Nat.le_of_ble_eq_true rfl⟩ rfl [0] rfl rfl (Nat.le_of_ble_eq_true rfl) dX11_bore_140 hF (fun M17 r18 hF => ?_)
                        refine r_callV_I (pc := 143) (Py := P_Jx4a65c_add_9ea2d) (n := 1) (As := [.ref b15]) (fun q e => k_Jx4a65c_add_9ea2d G _ b14 b15 q e) (c := 0) (Tb := TJx4a65c) (N := 3) rfl (by decide) (j0 := 1) rfl tw_619 tw_513 tw_514 tw_64 tw_515 hd_Jx4a65c_add_9ea2d ⟨Nat.le_of_ble_eq_true rfl, Nat.le_of_ble_eq_true rfl⟩ rfl [1] rfl rfl (Nat.le_of_ble_eq_true rfl) dX11_bore_143 hF (fun M19 r20 hF => ?_)
                        refine r_pop (pc := 146) dX11_bore_146 rfl ?_
                        refine r_iload (pc := 147) 0 dX11_bore_147 rfl ?_
                        exact r_iret (pc := 149) dX11_bore_149 hF
                      · exact T.sub ((w_X11_bore_p86) M3 a0 hF) [2] [1] rfl rfl
          · exact T.sub ((w_X11_bore_p25) M a0 hF) [0] [0] rfl rfl
theorem k_X11_bore (G : EG) (M : Mem) (a0 : Nat) (a1 : Int32) (a2 : Int32) (a3 : Int32) (a4 : Int32) (a5 : Int32) (q : Mem × Int32) (h : F_X11_bore M a0 a1 a2 a3 a4 a5 = some q) : Kt yX11_bore P_X11_bore M [(a0, 13)] [.ref a0, .int a1, .int a2, .int a3, .int a4, .int a5] (RI G q) := Kt.of (by decide +kernel) rfl (Nat.le_of_ble_eq_true rfl) rfl (fun X hz => w_X11_bore M a0 a1 a2 a3 a4 a5 h)
