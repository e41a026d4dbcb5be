set_option maxHeartbeats 4000000 in
theorem w_X12_feed_p29 {X : Option Cx} {G : EG} {res : Mem × Int32} : ∀ (M : Mem) (x0 : Nat), F_X12_feed_p29 M x0 = some res → T X (RI G res) P_X12_feed M [(x0, 14)] [(0, .ref x0)] [] 29 := by
  intro M x0 hF
  unfold F_X12_feed_p29 at hF
  refine r_aload_n (pc := 29) 0 dX12_feed_29 rfl rfl ?_
  refine r_bipush (pc := 30) (w := -6) dX12_feed_30 (by decide) ?_
  refine r_callV_I (pc := 32) (Py := P_X12_refuse) (n := 1) (As := [.int ((-6 : Int32))]) (fun q e => k_X12_refuse G _ x0 (-6 : Int32) q e) (c := 13) (Tb := TX12) (N := 58) rfl (by decide) (j0 := 0) rfl tw_1266 tw_1268 tw_28 tw_70 tw_1269 hd_X12_refuse ⟨Nat.le_of_ble_eq_true rfl, Nat.le_of_ble_eq_true rfl⟩ rfl [0] rfl rfl (Nat.le_of_ble_eq_true rfl) dX12_feed_32 hF (fun M1 r2 hF => ?_)
  exact r_iret (pc := 35) dX12_feed_35 hF
set_option maxHeartbeats 4000000 in
theorem w_X12_feed_p39 {X : Option Cx} {G : EG} {res : Mem × Int32} {k82 : Mem → Nat → Option (Mem × Int32)} (hk82 : ∀ (M : Mem) (x0 : Nat), k82 M x0 = some res → T X (RI G res) P_X12_feed M [(x0, 14)] [(0, .ref x0)] [] 82) : ∀ (n : Nat) (M : Mem) (x0 : Nat) (x1 : Int32) (x2 : Int64) (x4 : Int32), F_X12_feed_p39 k82 n M x0 x1 x2 x4 = some res → T X (RI G res) P_X12_feed M [(x0, 14)] [(0, .ref x0), (1, .int x1), (2, .long x2), (4, .int x4)] [] 39 := by
  intro n
  induction n with
  | zero =>
    intro M x0 x1 x2 x4 hF
    cases hF
  | succ n ih =>
    intro M x0 x1 x2 x4 hF
    unfold F_X12_feed_p39 at hF
    refine r_iload (pc := 39) 3 dX12_feed_39 rfl ?_
    refine r_iload_n (pc := 41) 1 dX12_feed_41 rfl rfl ?_
    refine r_icmp_ge (pc := 42) (tgt := 82) dX12_feed_42 rfl hF (fun hF => ?_) (fun hF => ?_)
    · exact T.sub (hk82 M x0 hF) [0] [0] rfl rfl
    · refine r_aload_n (pc := 45) 0 dX12_feed_45 rfl rfl ?_
      refine gf_X12_78 (pc := 46) (j := 0) rfl dX12_feed_46 ?_
      refine r_lr (by decide) hF (fun b1 hF => ?_)
      refine r_aload_n (pc := 49) 0 dX12_feed_49 rfl rfl ?_
      refine gf_X12_224 (pc := 50) (j := 1) rfl dX12_feed_50 ?_
      refine r_lload_n (pc := 53) 2 dX12_feed_53 rfl rfl ?_
      refine r_bipush (pc := 54) (w := 8) dX12_feed_54 (by decide) ?_
      refine r_iload (pc := 56) 3 dX12_feed_56 rfl ?_
      refine r_imul (pc := 58) dX12_feed_58 ?_
      refine r_lshr (pc := 59) dX12_feed_59 ?_
      refine r_ldc2 (pc := 60) (w := 255) tw_1423 dX12_feed_60 ?_
      refine r_land (pc := 63) dX12_feed_63 ?_
      refine r_l2i (pc := 64) dX12_feed_64 ?_
      refine r_iast (pc := 65) (j := 0) rfl dX12_feed_65 hF (fun M2 hF => ?_)
      refine r_aload_n (pc := 66) 0 dX12_feed_66 rfl rfl ?_
      refine r_dup (pc := 67) dX12_feed_67 rfl ?_
      refine gf_X12_224 (pc := 68) (j := 1) rfl dX12_feed_68 ?_
      refine r_iconst (pc := 71) (w := 1) dX12_feed_71 (by decide) ?_
      refine r_iadd (pc := 72) dX12_feed_72 ?_
      refine pf_X12_224 (pc := 73) (j := 1) rfl dX12_feed_73 hF (fun M3 hF => ?_)
      obtain ⟨v4, e9, hF⟩ := bnd_e hF
      refine r_iinc (pc := 76) (w := v4) (k := 3) (L1 := [(4, .int v4), (0, .ref x0), (1, .int x1), (2, .long x2)]) dX12_feed_76 rfl (by rw [e9]; rfl) (by decide) rfl ?_
      clear e9
      refine r_goto (pc := 79) (tgt := 39) dX12_feed_79 rfl ?_
      exact T.sub (ih M3 x0 x1 x2 v4 hF) [1] [1, 2, 3, 0] rfl rfl
set_option maxHeartbeats 4000000 in
theorem w_X12_feed_p82 {X : Option Cx} {G : EG} {res : Mem × Int32} : ∀ (M : Mem) (x0 : Nat), F_X12_feed_p82 M x0 = some res → T X (RI G res) P_X12_feed M [(x0, 14)] [(0, .ref x0)] [] 82 := by
  intro M x0 hF
  unfold F_X12_feed_p82 at hF
  refine r_aload_n (pc := 82) 0 dX12_feed_82 rfl rfl ?_
  refine gf_X12_224 (pc := 83) (j := 0) rfl dX12_feed_83 ?_
  exact r_iret (pc := 86) dX12_feed_86 hF
set_option maxHeartbeats 4000000 in
theorem w_X12_feed {X : Option Cx} {G : EG} {res : Mem × Int32} (M : Mem) (a0 : Nat) (a1 : Int32) (a2 : Int64) (hF : F_X12_feed M a0 a1 a2 = some res) : T X (RI G res) P_X12_feed M [(a0, 14)] [(0, .ref a0), (1, .int a1), (2, .long a2)] [] 0 := by
  unfold F_X12_feed at hF
  refine r_iload_n (pc := 0) 1 dX12_feed_0 rfl rfl ?_
  refine r_iconst (pc := 1) (w := 1) dX12_feed_1 (by decide) ?_
  refine r_icmp_ge (pc := 2) (tgt := 12) dX12_feed_2 rfl hF (fun hF => ?_) (fun hF => ?_)
  · refine r_iload_n (pc := 12) 1 dX12_feed_12 rfl rfl ?_
    refine r_bipush (pc := 13) (w := 8) dX12_feed_13 (by decide) ?_
    refine r_icmp_gt (pc := 15) (tgt := 29) dX12_feed_15 rfl hF (fun hF => ?_) (fun hF => ?_)
    · exact T.sub ((w_X12_feed_p29) M a0 hF) [0] [0] rfl rfl
    · refine r_aload_n (pc := 18) 0 dX12_feed_18 rfl rfl ?_
      refine gf_X12_224 (pc := 19) (j := 0) rfl dX12_feed_19 ?_
      refine r_iload_n (pc := 22) 1 dX12_feed_22 rfl rfl ?_
      refine r_iadd (pc := 23) dX12_feed_23 ?_
      refine r_bipush (pc := 24) (w := 60) dX12_feed_24 (by decide) ?_
      refine r_icmp_le (pc := 26) (tgt := 36) dX12_feed_26 rfl hF (fun hF => ?_) (fun hF => ?_)
      · refine r_iconst (pc := 36) (w := 0) dX12_feed_36 (by decide) ?_
        refine r_istore (pc := 37) (L1 := [(4, .int ((0 : Int32))), (0, .ref a0), (1, .int a1), (2, .long a2)]) dX12_feed_37 (by decide) rfl ?_
        exact T.sub ((w_X12_feed_p39 (w_X12_feed_p82) FU) M a0 a1 a2 (0 : Int32) hF) [0] [1, 2, 3, 0] rfl rfl
      · exact T.sub ((w_X12_feed_p29) M a0 hF) [0] [0] rfl rfl
  · refine r_aload_n (pc := 5) 0 dX12_feed_5 rfl rfl ?_
    refine r_bipush (pc := 6) (w := -4) dX12_feed_6 (by decide) ?_
    refine r_callV_I (pc := 8) (Py := P_X12_refuse) (n := 1) (As := [.int ((-4 : Int32))]) (fun q e => k_X12_refuse G _ a0 (-4 : Int32) q e) (c := 13) (Tb := TX12) (N := 58) rfl (by decide) (j0 := 0) rfl tw_1266 tw_1268 tw_28 tw_70 tw_1269 hd_X12_refuse ⟨Nat.le_of_ble_eq_true rfl, Nat.le_of_ble_eq_true rfl⟩ rfl [0] rfl rfl (Nat.le_of_ble_eq_true rfl) dX12_feed_8 hF (fun M1 r2 hF => ?_)
    exact r_iret (pc := 11) dX12_feed_11 hF
theorem k_X12_feed (G : EG) (M : Mem) (a0 : Nat) (a1 : Int32) (a2 : Int64) (q : Mem × Int32) (h : F_X12_feed M a0 a1 a2 = some q) : Kt yX12_feed P_X12_feed M [(a0, 14)] [.ref a0, .int a1, .long a2] (RI G q) := Kt.of (by decide +kernel) rfl (Nat.le_of_ble_eq_true rfl) rfl (fun X hz => w_X12_feed M a0 a1 a2 h)
set_option maxHeartbeats 4000000 in
theorem w_X12_many_p4 {X : Option Cx} {G : EG} {res : Mem × Int32} {k24 : Mem → Int32 → Option (Mem × Int32)} (hk24 : ∀ (M : Mem) (x1 : Int32), k24 M x1 = some res → T X (RI G res) P_X12_many M [] [(1, .int x1)] [] 24) : ∀ (n : Nat) (M : Mem) (x0 : Int32) (x1 : Int32) (x2 : Int32), F_X12_many_p4 k24 n M x0 x1 x2 = some res → T X (RI G res) P_X12_many M [] [(0, .int x0), (1, .int x1), (2, .int x2)] [] 4 := by
  intro n
  induction n with
  | zero =>
    intro M x0 x1 x2 hF
    cases hF
  | succ n ih =>
    intro M x0 x1 x2 hF
    unfold F_X12_many_p4 at hF
    refine r_iload_n (pc := 4) 2 dX12_many_4 rfl rfl ?_
    refine r_bipush (pc := 5) (w := 8) dX12_many_5 (by decide) ?_
    refine r_icmp_ge (pc := 7) (tgt := 24) dX12_many_7 rfl hF (fun hF => ?_) (fun hF => ?_)
    · exact T.sub (hk24 M x1 hF) [] [1] rfl rfl
    · refine r_iload_n (pc := 10) 1 dX12_many_10 rfl rfl ?_
      refine r_iload_n (pc := 11) 0 dX12_many_11 rfl rfl ?_
      refine r_iload_n (pc := 12) 2 dX12_many_12 rfl rfl ?_
      refine r_ishr (pc := 13) dX12_many_13 ?_
      refine r_iconst (pc := 14) (w := 1) dX12_many_14 (by decide) ?_
      refine r_iand (pc := 15) dX12_many_15 ?_
      refine r_iadd (pc := 16) dX12_many_16 ?_
      refine r_gI (pc := 17) hF (fun v1 hF => ?_)
      refine r_istore_n (pc := 17) (L1 := [(1, .int v1), (0, .int x0), (2, .int x2)]) dX12_many_17 rfl (by decide) rfl ?_
      obtain ⟨v2, e9, hF⟩ := bnd_e hF
      refine r_iinc (pc := 18) (w := v2) (k := 2) (L1 := [(2, .int v2), (1, .int v1), (0, .int x0)]) dX12_many_18 rfl (by rw [e9]; rfl) (by decide) rfl ?_
      clear e9
      refine r_goto (pc := 21) (tgt := 4) dX12_many_21 rfl ?_
      exact T.sub (ih M x0 v1 v2 hF) [] [2, 1, 0] rfl rfl
set_option maxHeartbeats 4000000 in
theorem w_X12_many_p24 {X : Option Cx} {G : EG} {res : Mem × Int32} : ∀ (M : Mem) (x1 : Int32), F_X12_many_p24 M x1 = some res → T X (RI G res) P_X12_many M [] [(1, .int x1)] [] 24 := by
  intro M x1 hF
  unfold F_X12_many_p24 at hF
  refine r_iload_n (pc := 24) 0 dX12_many_24 rfl rfl ?_
  exact r_iret (pc := 25) dX12_many_25 hF
set_option maxHeartbeats 4000000 in
theorem w_X12_many {X : Option Cx} {G : EG} {res : Mem × Int32} (M : Mem) (a0 : Int32) (hF : F_X12_many M a0 = some res) : T X (RI G res) P_X12_many M [] [(0, .int a0)] [] 0 := by
  unfold F_X12_many at hF
  refine r_iconst (pc := 0) (w := 0) dX12_many_0 (by decide) ?_
  refine r_istore_n (pc := 1) (L1 := [(1, .int ((0 : Int32))), (0, .int a0)]) dX12_many_1 rfl (by decide) rfl ?_
  refine r_iconst (pc := 2) (w := 0) dX12_many_2 (by decide) ?_
  refine r_istore_n (pc := 3) (L1 := [(2, .int ((0 : Int32))), (1, .int ((0 : Int32))), (0, .int a0)]) dX12_many_3 rfl (by decide) rfl ?_
  exact T.sub ((w_X12_many_p4 (w_X12_many_p24) FU) M a0 (0 : Int32) (0 : Int32) hF) [] [2, 1, 0] rfl rfl
theorem k_X12_many (G : EG) (M : Mem) (a0 : Int32) (q : Mem × Int32) (h : F_X12_many M a0 = some q) : Kt yX12_many P_X12_many M [] [.int a0] (RI G q) := Kt.of (by decide +kernel) rfl (Nat.le_of_ble_eq_true rfl) rfl (fun X hz => w_X12_many M a0 h)
set_option maxHeartbeats 4000000 in
theorem w_X12_few_p9 {X : Option Cx} {G : EG} {res : Mem × Int32} : ∀ (M : Mem) (x0 : Nat), F_X12_few_p9 M x0 = some res → T X (RI G res) P_X12_few M [(x0, 14)] [(0, .ref x0)] [] 9 := by
  intro M x0 hF
  unfold F_X12_few_p9 at hF
  refine r_aload_n (pc := 9) 0 dX12_few_9 rfl rfl ?_
  refine r_bipush (pc := 10) (w := -4) dX12_few_10 (by decide) ?_
  refine r_callV_I (pc := 12) (Py := P_X12_refuse) (n := 1) (As := [.int ((-4 : Int32))]) (fun q e => k_X12_refuse G _ x0 (-4 : Int32) q e) (c := 13) (Tb := TX12) (N := 58) rfl (by decide) (j0 := 0) rfl tw_1266 tw_1268 tw_28 tw_70 tw_1269 hd_X12_refuse ⟨Nat.le_of_ble_eq_true rfl, Nat.le_of_ble_eq_true rfl⟩ rfl [0] rfl rfl (Nat.le_of_ble_eq_true rfl) dX12_few_12 hF (fun M1 r2 hF => ?_)
  exact r_iret (pc := 15) dX12_few_15 hF
set_option maxHeartbeats 4000000 in
theorem w_X12_few_p28 {X : Option Cx} {G : EG} {res : Mem × Int32} : ∀ (M : Mem) (x0 : Nat), F_X12_few_p28 M x0 = some res → T X (RI G res) P_X12_few M [(x0, 14)] [(0, .ref x0)] [] 28 := by
  intro M x0 hF
  unfold F_X12_few_p28 at hF
  refine r_aload_n (pc := 28) 0 dX12_few_28 rfl rfl ?_
  refine r_bipush (pc := 29) (w := -6) dX12_few_29 (by decide) ?_
  refine r_callV_I (pc := 31) (Py := P_X12_refuse) (n := 1) (As := [.int ((-6 : Int32))]) (fun q e => k_X12_refuse G _ x0 (-6 : Int32) q e) (c := 13) (Tb := TX12) (N := 58) rfl (by decide) (j0 := 0) rfl tw_1266 tw_1268 tw_28 tw_70 tw_1269 hd_X12_refuse ⟨Nat.le_of_ble_eq_true rfl, Nat.le_of_ble_eq_true rfl⟩ rfl [0] rfl rfl (Nat.le_of_ble_eq_true rfl) dX12_few_31 hF (fun M1 r2 hF => ?_)
  exact r_iret (pc := 34) dX12_few_34 hF
set_option maxHeartbeats 4000000 in
theorem w_X12_few_p108 {X : Option Cx} {G : EG} {res : Mem × Int32} {k77 : Mem → Nat → Int32 → Int32 → Int32 → Int32 → Int32 → Option (Mem × Int32)} (hk77 : ∀ (M : Mem) (x0 : Nat) (x1 : Int32) (x2 : Int32) (x3 : Int32) (x4 : Int32) (x5 : Int32), k77 M x0 x1 x2 x3 x4 x5 = some res → T X (RI G res) P_X12_few M [(x0, 14)] [(0, .ref x0), (1, .int x1), (2, .int x2), (3, .int x3), (4, .int x4), (5, .int x5)] [] 77) : ∀ (M : Mem) (x0 : Nat) (x1 : Int32) (x2 : Int32) (x3 : Int32) (x4 : Int32) (x5 : Int32) (y0 : Nat) (y1 : Int32) (y2 : Int32), F_X12_few_p108 k77 M x0 x1 x2 x3 x4 x5 y0 y1 y2 = some res → T X (RI G res) P_X12_few M [(x0, 14), (y0, 22)] [(0, .ref x0), (1, .int x1), (2, .int x2), (3, .int x3), (4, .int x4), (5, .int x5)] [.int y2, .int y1, .ref y0] 108 := by
  intro M x0 x1 x2 x3 x4 x5 y0 y1 y2 hF
  unfold F_X12_few_p108 at hF
  refine r_zast (pc := 108) (j := 1) rfl dX12_few_108 hF (fun M1 hF => ?_)
  obtain ⟨v2, e9, hF⟩ := bnd_e hF
  refine r_iinc (pc := 109) (w := v2) (k := 5) (L1 := [(5, .int v2), (0, .ref x0), (1, .int x1), (2, .int x2), (3, .int x3), (4, .int x4)]) dX12_few_109 rfl (by rw [e9]; rfl) (by decide) rfl ?_
  clear e9
  refine r_goto (pc := 112) (tgt := 77) dX12_few_112 rfl ?_
  exact T.sub (hk77 M1 x0 x1 x2 x3 x4 v2 hF) [0] [1, 2, 3, 4, 5, 0] rfl rfl
set_option maxHeartbeats 4000000 in
theorem w_X12_few_p77 {X : Option Cx} {G : EG} {res : Mem × Int32} {k115 : Mem → Nat → Int32 → Int32 → Int32 → Int32 → Option (Mem × Int32)} (hk115 : ∀ (M : Mem) (x0 : Nat) (x1 : Int32) (x2 : Int32) (x3 : Int32) (x4 : Int32), k115 M x0 x1 x2 x3 x4 = some res → T X (RI G res) P_X12_few M [(x0, 14)] [(0, .ref x0), (1, .int x1), (2, .int x2), (3, .int x3), (4, .int x4)] [] 115) : ∀ (n : Nat) (M : Mem) (x0 : Nat) (x1 : Int32) (x2 : Int32) (x3 : Int32) (x4 : Int32) (x5 : Int32), F_X12_few_p77 k115 n M x0 x1 x2 x3 x4 x5 = some res → T X (RI G res) P_X12_few M [(x0, 14)] [(0, .ref x0), (1, .int x1), (2, .int x2), (3, .int x3), (4, .int x4), (5, .int x5)] [] 77 := by
  intro n
  induction n with
  | zero =>
    intro M x0 x1 x2 x3 x4 x5 hF
    cases hF
  | succ n ih =>
    intro M x0 x1 x2 x3 x4 x5 hF
    unfold F_X12_few_p77 at hF
    refine r_iload (pc := 77) 5 dX12_few_77 rfl ?_
    refine r_aload_n (pc := 79) 0 dX12_few_79 rfl rfl ?_
    refine gf_X12_154 (pc := 80) (j := 0) rfl dX12_few_80 ?_
    refine r_icmp_ge (pc := 83) (tgt := 115) dX12_few_83 rfl hF (fun hF => ?_) (fun hF => ?_)
    · exact T.sub (hk115 M x0 x1 x2 x3 x4 hF) [0] [0, 1, 2, 3, 4] rfl rfl
    · refine r_aload_n (pc := 86) 0 dX12_few_86 rfl rfl ?_
      refine gf_X12_37 (pc := 87) (j := 0) rfl dX12_few_87 ?_
      refine r_lr (by decide) hF (fun b1 hF => ?_)
      refine r_iload (pc := 90) 5 dX12_few_90 rfl ?_
      refine r_iload (pc := 92) 4 dX12_few_92 rfl ?_
      refine r_iload (pc := 94) 5 dX12_few_94 rfl ?_
      refine r_ishr (pc := 96) dX12_few_96 ?_
      refine r_iconst (pc := 97) (w := 1) dX12_few_97 (by decide) ?_
      refine r_iand (pc := 98) dX12_few_98 ?_
      refine r_iconst (pc := 99) (w := 1) dX12_few_99 (by decide) ?_
      refine r_icmp_ne (pc := 100) (tgt := 107) dX12_few_100 rfl hF (fun hF => ?_) (fun hF => ?_)
      · refine r_iconst (pc := 107) (w := 0) dX12_few_107 (by decide) ?_
        exact T.sub ((w_X12_few_p108 ih) M x0 x1 x2 x3 x4 x5 b1 x5 (0 : Int32) hF) [1, 0] [0, 1, 2, 3, 4, 5] rfl rfl
      · refine r_iconst (pc := 103) (w := 1) dX12_few_103 (by decide) ?_
        refine r_goto (pc := 104) (tgt := 108) dX12_few_104 rfl ?_
        exact T.sub ((w_X12_few_p108 ih) M x0 x1 x2 x3 x4 x5 b1 x5 (1 : Int32) hF) [1, 0] [0, 1, 2, 3, 4, 5] rfl rfl
set_option maxHeartbeats 4000000 in
theorem w_X12_few_p118 {X : Option Cx} {G : EG} {res : Mem × Int32} {k134 : Mem → Nat → Int32 → Int32 → Int32 → Int32 → Option (Mem × Int32)} (hk134 : ∀ (M : Mem) (x0 : Nat) (x1 : Int32) (x2 : Int32) (x3 : Int32) (x4 : Int32), k134 M x0 x1 x2 x3 x4 = some res → T X (RI G res) P_X12_few M [(x0, 14)] [(0, .ref x0), (1, .int x1), (2, .int x2), (3, .int x3), (4, .int x4)] [] 134) : ∀ (n : Nat) (M : Mem) (x0 : Nat) (x1 : Int32) (x2 : Int32) (x3 : Int32) (x4 : Int32) (x5 : Int32), F_X12_few_p118 k134 n M x0 x1 x2 x3 x4 x5 = some res → T X (RI G res) P_X12_few M [(x0, 14)] [(0, .ref x0), (1, .int x1), (2, .int x2), (3, .int x3), (4, .int x4), (5, .int x5)] [] 118 := by
  intro n
  induction n with
  | zero =>
    intro M x0 x1 x2 x3 x4 x5 hF
    cases hF
  | succ n ih =>
    intro M x0 x1 x2 x3 x4 x5 hF
    unfold F_X12_few_p118 at hF
    refine r_iload (pc := 118) 5 dX12_few_118 rfl ?_
    refine r_iload_n (pc := 120) 1 dX12_few_120 rfl rfl ?_
    refine r_icmp_ge (pc := 121) (tgt := 134) dX12_few_121 rfl hF (fun hF => ?_) (fun hF => ?_)
    · exact T.sub (hk134 M x0 x1 x2 x3 x4 hF) [0] [0, 1, 2, 3, 4] rfl rfl
    · refine r_aload_n (pc := 124) 0 dX12_few_124 rfl rfl ?_
      refine r_callV_V (pc := 125) (Py := P_X12_goes) (n := 0) (As := []) (fun q e => k_X12_goes G _ x0 q e) (c := 13) (Tb := TX12) (N := 58) rfl (by decide) (j0 := 0) rfl tw_1270 tw_1272 tw_29 tw_70 tw_1273 hd_X12_goes ⟨Nat.le_of_ble_eq_true rfl, Nat.le_of_ble_eq_true rfl⟩ rfl [0] rfl rfl (Nat.le_of_ble_eq_true rfl) dX12_few_125 hF (fun M1 r2 hF => ?_)
      obtain ⟨v3, e9, hF⟩ := bnd_e hF
      refine r_iinc (pc := 128) (w := v3) (k := 5) (L1 := [(5, .int v3), (0, .ref x0), (1, .int x1), (2, .int x2), (3, .int x3), (4, .int x4)]) dX12_few_128 rfl (by rw [e9]; rfl) (by decide) rfl ?_
      clear e9
      refine r_goto (pc := 131) (tgt := 118) dX12_few_131 rfl ?_
      exact T.sub (ih M1 x0 x1 x2 x3 x4 v3 hF) [0] [1, 2, 3, 4, 5, 0] rfl rfl
set_option maxHeartbeats 4000000 in
theorem w_X12_few_p164 {X : Option Cx} {G : EG} {res : Mem × Int32} {k45 : Mem → Nat → Int32 → Int32 → Int32 → Int32 → Option (Mem × Int32)} (hk45 : ∀ (M : Mem) (x0 : Nat) (x1 : Int32) (x2 : Int32) (x3 : Int32) (x4 : Int32), k45 M x0 x1 x2 x3 x4 = some res → T X (RI G res) P_X12_few M [(x0, 14)] [(0, .ref x0), (1, .int x1), (2, .int x2), (3, .int x3), (4, .int x4)] [] 45) : ∀ (M : Mem) (x0 : Nat) (x1 : Int32) (x2 : Int32) (x3 : Int32) (x4 : Int32), F_X12_few_p164 k45 M x0 x1 x2 x3 x4 = some res → T X (RI G res) P_X12_few M [(x0, 14)] [(0, .ref x0), (1, .int x1), (2, .int x2), (3, .int x3), (4, .int x4)] [] 164 := by
  intro M x0 x1 x2 x3 x4 hF
  unfold F_X12_few_p164 at hF
  obtain ⟨v1, e9, hF⟩ := bnd_e hF
  refine r_iinc (pc := 164) (w := v1) (k := 4) (L1 := [(4, .int v1), (0, .ref x0), (1, .int x1), (2, .int x2), (3, .int x3)]) dX12_few_164 rfl (by rw [e9]; rfl) (by decide) rfl ?_
  clear e9
  refine r_goto (pc := 167) (tgt := 45) dX12_few_167 rfl ?_
  exact T.sub (hk45 M x0 x1 x2 x3 v1 hF) [0] [1, 2, 3, 4, 0] rfl rfl
set_option maxHeartbeats 4000000 in
theorem w_X12_few_p159 {X : Option Cx} {G : EG} {res : Mem × Int32} {k45 : Mem → Nat → Int32 → Int32 → Int32 → Int32 → Option (Mem × Int32)} (hk45 : ∀ (M : Mem) (x0 : Nat) (x1 : Int32) (x2 : Int32) (x3 : Int32) (x4 : Int32), k45 M x0 x1 x2 x3 x4 = some res → T X (RI G res) P_X12_few M [(x0, 14)] [(0, .ref x0), (1, .int x1), (2, .int x2), (3, .int x3), (4, .int x4)] [] 45) : ∀ (M : Mem) (x0 : Nat) (x1 : Int32) (x2 : Int32) (x4 : Int32) (y0 : Int32), F_X12_few_p159 k45 M x0 x1 x2 x4 y0 = some res → T X (RI G res) P_X12_few M [(x0, 14)] [(0, .ref x0), (1, .int x1), (2, .int x2), (4, .int x4)] [.int y0] 159 := by
  intro M x0 x1 x2 x4 y0 hF
  unfold F_X12_few_p159 at hF
  refine r_istore_n (pc := 159) (L1 := [(3, .int y0), (0, .ref x0), (1, .int x1), (2, .int x2), (4, .int x4)]) dX12_few_159 rfl (by decide) rfl ?_
  refine r_aload_n (pc := 160) 1 dX12_few_160 rfl rfl ?_
  refine r_callV_V (pc := 161) (Py := P_X12_laysBack) (n := 0) (As := []) (fun q e => k_X12_laysBack G _ x0 q e) (c := 13) (Tb := TX12) (N := 58) rfl (by decide) (j0 := 0) rfl tw_1482 tw_1484 tw_53 tw_70 tw_1485 hd_X12_laysBack ⟨Nat.le_of_ble_eq_true rfl, Nat.le_of_ble_eq_true rfl⟩ rfl [0] rfl rfl (Nat.le_of_ble_eq_true rfl) dX12_few_161 hF (fun M1 r2 hF => ?_)
  exact T.sub ((w_X12_few_p164 hk45) M1 x0 x1 x2 y0 x4 hF) [0] [1, 2, 3, 0, 4] rfl rfl
set_option maxHeartbeats 4000000 in
theorem w_X12_few_p134 {X : Option Cx} {G : EG} {res : Mem × Int32} {k45 : Mem → Nat → Int32 → Int32 → Int32 → Int32 → Option (Mem × Int32)} (hk45 : ∀ (M : Mem) (x0 : Nat) (x1 : Int32) (x2 : Int32) (x3 : Int32) (x4 : Int32), k45 M x0 x1 x2 x3 x4 = some res → T X (RI G res) P_X12_few M [(x0, 14)] [(0, .ref x0), (1, .int x1), (2, .int x2), (3, .int x3), (4, .int x4)] [] 45) : ∀ (M : Mem) (x0 : Nat) (x1 : Int32) (x2 : Int32) (x3 : Int32) (x4 : Int32), F_X12_few_p134 k45 M x0 x1 x2 x3 x4 = some res → T X (RI G res) P_X12_few M [(x0, 14)] [(0, .ref x0), (1, .int x1), (2, .int x2), (3, .int x3), (4, .int x4)] [] 134 := by
  intro M x0 x1 x2 x3 x4 hF
  unfold F_X12_few_p134 at hF
  refine r_aload_n (pc := 134) 0 dX12_few_134 rfl rfl ?_
  refine gf_X12_48 (pc := 135) (j := 0) rfl dX12_few_135 ?_
  refine r_lr (by decide) hF (fun b1 hF => ?_)
  refine r_iconst (pc := 138) (w := 5) dX12_few_138 (by decide) ?_
  refine r_lald (pc := 139) (j := 0) rfl dX12_few_139 hF (fun hF => ?_)
  refine r_aload_n (pc := 140) 0 dX12_few_140 rfl rfl ?_
  refine gf_X12_136 (pc := 141) (j := 1) rfl dX12_few_141 ?_
  refine r_lr (by decide) hF (fun b2 hF => ?_)
  refine r_iconst (pc := 144) (w := 5) dX12_few_144 (by decide) ?_
  refine r_lald (pc := 145) (j := 0) rfl dX12_few_145 hF (fun hF => ?_)
  refine r_lsub (pc := 146) dX12_few_146 ?_
  refine r_iload_n (pc := 147) 2 dX12_few_147 rfl rfl ?_
  refine r_i2l (pc := 148) dX12_few_148 ?_
  refine r_lcmp (pc := 149) dX12_few_149 ?_
  refine r_if_gt (pc := 150) (tgt := 158) dX12_few_150 rfl hF (fun hF => ?_) (fun hF => ?_)
  · refine r_iload_n (pc := 158) 3 dX12_few_158 rfl rfl ?_
    exact T.sub ((w_X12_few_p159 hk45) M x0 x1 x2 x4 x3 hF) [2] [0, 1, 2, 4] rfl rfl
  · refine r_iload (pc := 153) 4 dX12_few_153 rfl ?_
    refine r_goto (pc := 155) (tgt := 159) dX12_few_155 rfl ?_
    exact T.sub ((w_X12_few_p159 hk45) M x0 x1 x2 x4 x4 hF) [2] [0, 1, 2, 4] rfl rfl
set_option maxHeartbeats 4000000 in
theorem w_X12_few_p115 {X : Option Cx} {G : EG} {res : Mem × Int32} {k45 : Mem → Nat → Int32 → Int32 → Int32 → Int32 → Option (Mem × Int32)} (hk45 : ∀ (M : Mem) (x0 : Nat) (x1 : Int32) (x2 : Int32) (x3 : Int32) (x4 : Int32), k45 M x0 x1 x2 x3 x4 = some res → T X (RI G res) P_X12_few M [(x0, 14)] [(0, .ref x0), (1, .int x1), (2, .int x2), (3, .int x3), (4, .int x4)] [] 45) : ∀ (M : Mem) (x0 : Nat) (x1 : Int32) (x2 : Int32) (x3 : Int32) (x4 : Int32), F_X12_few_p115 k45 M x0 x1 x2 x3 x4 = some res → T X (RI G res) P_X12_few M [(x0, 14)] [(0, .ref x0), (1, .int x1), (2, .int x2), (3, .int x3), (4, .int x4)] [] 115 := by
  intro M x0 x1 x2 x3 x4 hF
  unfold F_X12_few_p115 at hF
  refine r_iconst (pc := 115) (w := 0) dX12_few_115 (by decide) ?_
  refine r_istore (pc := 116) (L1 := [(5, .int ((0 : Int32))), (0, .ref x0), (1, .int x1), (2, .int x2), (3, .int x3), (4, .int x4)]) dX12_few_116 (by decide) rfl ?_
  exact T.sub ((w_X12_few_p118 (w_X12_few_p134 hk45) FU) M x0 x1 x2 x3 x4 (0 : Int32) hF) [0] [1, 2, 3, 4, 5, 0] rfl rfl
set_option maxHeartbeats 4000000 in
theorem w_X12_few_p74 {X : Option Cx} {G : EG} {res : Mem × Int32} {k45 : Mem → Nat → Int32 → Int32 → Int32 → Int32 → Option (Mem × Int32)} (hk45 : ∀ (M : Mem) (x0 : Nat) (x1 : Int32) (x2 : Int32) (x3 : Int32) (x4 : Int32), k45 M x0 x1 x2 x3 x4 = some res → T X (RI G res) P_X12_few M [(x0, 14)] [(0, .ref x0), (1, .int x1), (2, .int x2), (3, .int x3), (4, .int x4)] [] 45) : ∀ (M : Mem) (x0 : Nat) (x1 : Int32) (x2 : Int32) (x3 : Int32) (x4 : Int32), F_X12_few_p74 k45 M x0 x1 x2 x3 x4 = some res → T X (RI G res) P_X12_few M [(x0, 14)] [(0, .ref x0), (1, .int x1), (2, .int x2), (3, .int x3), (4, .int x4)] [] 74 := by
  intro M x0 x1 x2 x3 x4 hF
  unfold F_X12_few_p74 at hF
  refine r_iconst (pc := 74) (w := 0) dX12_few_74 (by decide) ?_
  refine r_istore (pc := 75) (L1 := [(5, .int ((0 : Int32))), (0, .ref x0), (1, .int x1), (2, .int x2), (3, .int x3), (4, .int x4)]) dX12_few_75 (by decide) rfl ?_
  exact T.sub ((w_X12_few_p77 (w_X12_few_p115 hk45) FU) M x0 x1 x2 x3 x4 (0 : Int32) hF) [0] [1, 2, 3, 4, 5, 0] rfl rfl
set_option maxHeartbeats 4000000 in
theorem w_X12_few_p45 {X : Option Cx} {G : EG} {res : Mem × Int32} {k170 : Mem → Int32 → Option (Mem × Int32)} (hk170 : ∀ (M : Mem) (x3 : Int32), k170 M x3 = some res → T X (RI G res) P_X12_few M [] [(3, .int x3)] [] 170) : ∀ (n : Nat) (M : Mem) (x0 : Nat) (x1 : Int32) (x2 : Int32) (x3 : Int32) (x4 : Int32), F_X12_few_p45 k170 n M x0 x1 x2 x3 x4 = some res → T X (RI G res) P_X12_few M [(x0, 14)] [(0, .ref x0), (1, .int x1), (2, .int x2), (3, .int x3), (4, .int x4)] [] 45 := by
  intro n
  induction n with
  | zero =>
    intro M x0 x1 x2 x3 x4 hF
    cases hF
  | succ n ih =>
    intro M x0 x1 x2 x3 x4 hF
    unfold F_X12_few_p45 at hF
    refine r_iload (pc := 45) 4 dX12_few_45 rfl ?_
    refine r_iconst (pc := 47) (w := 1) dX12_few_47 (by decide) ?_
    refine r_aload_n (pc := 48) 0 dX12_few_48 rfl rfl ?_
    refine gf_X12_154 (pc := 49) (j := 0) rfl dX12_few_49 ?_
    refine r_ishl (pc := 52) dX12_few_52 ?_
    refine r_icmp_ge (pc := 53) (tgt := 170) dX12_few_53 rfl hF (fun hF => ?_) (fun hF => ?_)
    · exact T.sub (hk170 M x3 hF) [] [3] rfl rfl
    · refine r_iload_n (pc := 56) 3 dX12_few_56 rfl rfl ?_
      refine r_bipush (pc := 57) (w := -9) dX12_few_57 (by decide) ?_
      refine r_icmp_eq (pc := 59) (tgt := 74) dX12_few_59 rfl hF (fun hF => ?_) (fun hF => ?_)
      · exact T.sub ((w_X12_few_p74 ih) M x0 x1 x2 x3 x4 hF) [0] [0, 1, 2, 3, 4] rfl rfl
      · refine r_iload (pc := 62) 4 dX12_few_62 rfl ?_
        refine r_callS_I (pc := 64) (Py := P_X12_many) (n := 1) (As := [.int x4]) (fun q e => k_X12_many G _ x4 q e) tw_1490 tw_1491 tw_70 tw_1492 hd_X12_many ⟨Nat.le_of_ble_eq_true rfl, Nat.le_of_ble_eq_true rfl⟩ rfl [] rfl rfl (Nat.le_of_ble_eq_true rfl) dX12_few_64 hF (fun M1 r2 hF => ?_)
        refine r_iload_n (pc := 67) 3 dX12_few_67 rfl rfl ?_
        refine r_callS_I (pc := 68) (Py := P_X12_many) (n := 1) (As := [.int x3]) (fun q e => k_X12_many G _ x3 q e) tw_1490 tw_1491 tw_70 tw_1492 hd_X12_many ⟨Nat.le_of_ble_eq_true rfl, Nat.le_of_ble_eq_true rfl⟩ rfl [] rfl rfl (Nat.le_of_ble_eq_true rfl) dX12_few_68 hF (fun M3 r4 hF => ?_)
        refine r_icmp_ge (pc := 71) (tgt := 164) dX12_few_71 rfl hF (fun hF => ?_) (fun hF => ?_)
        · exact T.sub ((w_X12_few_p164 ih) M3 x0 x1 x2 x3 x4 hF) [0] [0, 1, 2, 3, 4] rfl rfl
        · exact T.sub ((w_X12_few_p74 ih) M3 x0 x1 x2 x3 x4 hF) [0] [0, 1, 2, 3, 4] rfl rfl
set_option maxHeartbeats 4000000 in
theorem w_X12_few_p170 {X : Option Cx} {G : EG} {res : Mem × Int32} : ∀ (M : Mem) (x3 : Int32), F_X12_few_p170 M x3 = some res → T X (RI G res) P_X12_few M [] [(3, .int x3)] [] 170 := by
  intro M x3 hF
  unfold F_X12_few_p170 at hF
  refine r_iload_n (pc := 170) 0 dX12_few_170 rfl rfl ?_
  exact r_iret (pc := 171) dX12_few_171 hF
set_option maxHeartbeats 4000000 in
theorem w_X12_few {X : Option Cx} {G : EG} {res : Mem × Int32} (M : Mem) (a0 : Nat) (a1 : Int32) (a2 : Int32) (hF : F_X12_few M a0 a1 a2 = some res) : T X (RI G res) P_X12_few M [(a0, 14)] [(0, .ref a0), (1, .int a1), (2, .int a2)] [] 0 := by
  unfold F_X12_few at hF
  refine r_iload_n (pc := 0) 1 dX12_few_0 rfl rfl ?_
  refine r_iconst (pc := 1) (w := 1) dX12_few_1 (by decide) ?_
  refine r_icmp_lt (pc := 2) (tgt := 9) dX12_few_2 rfl hF (fun hF => ?_) (fun hF => ?_)
  · exact T.sub ((w_X12_few_p9) M a0 hF) [0] [0] rfl rfl
  · refine r_iload_n (pc := 5) 2 dX12_few_5 rfl rfl ?_
    refine r_if_ge (pc := 6) (tgt := 16) dX12_few_6 rfl hF (fun hF => ?_) (fun hF => ?_)
    · refine r_iload_n (pc := 16) 1 dX12_few_16 rfl rfl ?_
      refine r_bipush (pc := 17) (w := 100) dX12_few_17 (by decide) ?_
      refine r_icmp_gt (pc := 19) (tgt := 28) dX12_few_19 rfl hF (fun hF => ?_) (fun hF => ?_)
      · exact T.sub ((w_X12_few_p28) M a0 hF) [0] [0] rfl rfl
      · refine r_iload_n (pc := 22) 2 dX12_few_22 rfl rfl ?_
        refine r_ldc (pc := 23) (w := 1000000000) tw_1387 dX12_few_23 ?_
        refine r_icmp_le (pc := 25) (tgt := 35) dX12_few_25 rfl hF (fun hF => ?_) (fun hF => ?_)
        · refine r_aload_n (pc := 35) 0 dX12_few_35 rfl rfl ?_
          refine r_callV_V (pc := 36) (Py := P_X12_keeps) (n := 0) (As := []) (fun q e => k_X12_keeps G _ a0 q e) (c := 13) (Tb := TX12) (N := 58) rfl (by decide) (j0 := 0) rfl tw_1477 tw_1479 tw_52 tw_70 tw_1480 hd_X12_keeps ⟨Nat.le_of_ble_eq_true rfl, Nat.le_of_ble_eq_true rfl⟩ rfl [0] rfl rfl (Nat.le_of_ble_eq_true rfl) dX12_few_36 hF (fun M1 r2 hF => ?_)
          refine r_bipush (pc := 39) (w := -9) dX12_few_39 (by decide) ?_
          refine r_istore_n (pc := 41) (L1 := [(3, .int ((-9 : Int32))), (0, .ref a0), (1, .int a1), (2, .int a2)]) dX12_few_41 rfl (by decide) rfl ?_
          refine r_iconst (pc := 42) (w := 0) dX12_few_42 (by decide) ?_
          refine r_istore (pc := 43) (L1 := [(4, .int ((0 : Int32))), (3, .int ((-9 : Int32))), (0, .ref a0), (1, .int a1), (2, .int a2)]) dX12_few_43 (by decide) rfl ?_
          exact T.sub ((w_X12_few_p45 (w_X12_few_p170) FU) M1 a0 a1 a2 (-9 : Int32) (0 : Int32) hF) [0] [2, 3, 4, 1, 0] rfl rfl
        · exact T.sub ((w_X12_few_p28) M a0 hF) [0] [0] rfl rfl
    · exact T.sub ((w_X12_few_p9) M a0 hF) [0] [0] rfl rfl
theorem k_X12_few (G : EG) (M : Mem) (a0 : Nat) (a1 : Int32) (a2 : Int32) (q : Mem × Int32) (h : F_X12_few M a0 a1 a2 = some q) : Kt yX12_few P_X12_few M [(a0, 14)] [.ref a0, .int a1, .int a2] (RI G q) := Kt.of (by decide +kernel) rfl (Nat.le_of_ble_eq_true rfl) rfl (fun X hz => w_X12_few M a0 a1 a2 h)
set_option maxHeartbeats 4000000 in
theorem w_X12_isBore {X : Option Cx} {G : EG} {res : Mem × Int32} (M : Mem) (a0 : Nat) (a1 : Int32) (hF : F_X12_isBore M a0 a1 = some res) : T X (RI G res) P_X12_isBore M [(a0, 14)] [(0, .ref a0), (1, .int a1)] [] 0 := by
  unfold F_X12_isBore at hF
  refine r_iload_n (pc := 0) 1 dX12_isBore_0 rfl rfl ?_
  refine r_i2l (pc := 1) dX12_isBore_1 ?_
  refine r_lconst (pc := 2) (w := 0) dX12_isBore_2 (by decide) ?_
  refine r_aload_n (pc := 3) 0 dX12_isBore_3 rfl rfl ?_
  refine gf_X12_154 (pc := 4) (j := 0) rfl dX12_isBore_4 ?_
  refine r_iconst (pc := 7) (w := 1) dX12_isBore_7 (by decide) ?_
  refine r_isub (pc := 8) dX12_isBore_8 ?_
  refine r_i2l (pc := 9) dX12_isBore_9 ?_
  refine r_callS_I (pc := 10) (Py := P_X12_in) (n := 3) (As := [.long (a1.toInt64), .long ((0 : Int64)), .long (((gI M 1302 a0) - (1 : Int32)).toInt64)]) (fun q e => k_X12_in G _ (a1.toInt64) (0 : Int64) (((gI M 1302 a0) - (1 : Int32)).toInt64) q e) tw_1342 tw_1343 tw_70 tw_1344 hd_X12_in ⟨Nat.le_of_ble_eq_true rfl, Nat.le_of_ble_eq_true rfl⟩ rfl [] rfl rfl (Nat.le_of_ble_eq_true rfl) dX12_isBore_10 hF (fun M1 r2 hF => ?_)
  exact r_zret (pc := 13) dX12_isBore_13 hF
theorem k_X12_isBore (G : EG) (M : Mem) (a0 : Nat) (a1 : Int32) (q : Mem × Int32) (h : F_X12_isBore M a0 a1 = some q) : Kt yX12_isBore P_X12_isBore M [(a0, 14)] [.ref a0, .int a1] (RI G q) := Kt.of (by decide +kernel) rfl (Nat.le_of_ble_eq_true rfl) rfl (fun X hz => w_X12_isBore M a0 a1 h)
set_option maxHeartbeats 4000000 in
theorem w_X12_frozen_p32 {X : Option Cx} {G : EG} {res : Mem × Int32} : ∀ (M : Mem) (y0 : Int32), F_X12_frozen_p32 M y0 = some res → T X (RI G res) P_X12_frozen M [] [] [.int y0] 32 := by
  intro M y0 hF
  unfold F_X12_frozen_p32 at hF
  exact r_iret (pc := 32) dX12_frozen_32 hF
set_option maxHeartbeats 4000000 in
theorem w_X12_frozen {X : Option Cx} {G : EG} {res : Mem × Int32} (M : Mem) (a0 : Nat) (a1 : Int32) (hF : F_X12_frozen M a0 a1 = some res) : T X (RI G res) P_X12_frozen M [(a0, 14)] [(0, .ref a0), (1, .int a1)] [] 0 := by
  unfold F_X12_frozen at hF
  refine r_aload_n (pc := 0) 0 dX12_frozen_0 rfl rfl ?_
  refine r_iload_n (pc := 1) 1 dX12_frozen_1 rfl rfl ?_
  refine r_callV_I (pc := 2) (Py := P_X12_isBore) (n := 1) (As := [.int a1]) (fun q e => k_X12_isBore G _ a0 a1 q e) (c := 13) (Tb := TX12) (N := 58) rfl (by decide) (j0 := 0) rfl tw_1338 tw_1340 tw_41 tw_70 tw_1341 hd_X12_isBore ⟨Nat.le_of_ble_eq_true rfl, Nat.le_of_ble_eq_true rfl⟩ rfl [0] rfl rfl (Nat.le_of_ble_eq_true rfl) dX12_frozen_2 hF (fun M1 r2 hF => ?_)
  refine r_if_ne (pc := 5) (tgt := 16) dX12_frozen_5 rfl hF (fun hF => ?_) (fun hF => ?_)
  · refine r_aload_n (pc := 16) 0 dX12_frozen_16 rfl rfl ?_
    refine r_iload_n (pc := 17) 1 dX12_frozen_17 rfl rfl ?_
    refine r_iconst (pc := 18) (w := 0) dX12_frozen_18 (by decide) ?_
    refine r_callV_J (pc := 19) (Py := P_X12_warmthOf) (n := 2) (As := [.int a1, .int ((0 : Int32))]) (fun q e => k_X12_warmthOf G _ a0 a1 (0 : Int32) q e) (c := 13) (Tb := TX12) (N := 58) rfl (by decide) (j0 := 0) rfl tw_1291 tw_1293 tw_34 tw_70 tw_1294 hd_X12_warmthOf ⟨Nat.le_of_ble_eq_true rfl, Nat.le_of_ble_eq_true rfl⟩ rfl [0] rfl rfl (Nat.le_of_ble_eq_true rfl) dX12_frozen_19 hF (fun M3 r4 hF => ?_)
    refine r_lconst (pc := 22) (w := 0) dX12_frozen_22 (by decide) ?_
    refine r_lcmp (pc := 23) dX12_frozen_23 ?_
    refine r_if_le (pc := 24) (tgt := 31) dX12_frozen_24 rfl hF (fun hF => ?_) (fun hF => ?_)
    · refine r_iconst (pc := 31) (w := 1) dX12_frozen_31 (by decide) ?_
      exact T.sub ((w_X12_frozen_p32) M3 (1 : Int32) hF) [] [] rfl rfl
    · refine r_iconst (pc := 27) (w := 0) dX12_frozen_27 (by decide) ?_
      refine r_goto (pc := 28) (tgt := 32) dX12_frozen_28 rfl ?_
      exact T.sub ((w_X12_frozen_p32) M3 (0 : Int32) hF) [] [] rfl rfl
  · refine r_aload_n (pc := 8) 0 dX12_frozen_8 rfl rfl ?_
    refine r_iconst (pc := 9) (w := -1) dX12_frozen_9 (by decide) ?_
    refine r_callV_I (pc := 10) (Py := P_X12_refuse) (n := 1) (As := [.int ((-1 : Int32))]) (fun q e => k_X12_refuse G _ a0 (-1 : Int32) q e) (c := 13) (Tb := TX12) (N := 58) rfl (by decide) (j0 := 0) rfl tw_1266 tw_1268 tw_28 tw_70 tw_1269 hd_X12_refuse ⟨Nat.le_of_ble_eq_true rfl, Nat.le_of_ble_eq_true rfl⟩ rfl [0] rfl rfl (Nat.le_of_ble_eq_true rfl) dX12_frozen_10 hF (fun M5 r6 hF => ?_)
    refine r_goto (pc := 13) (tgt := 32) dX12_frozen_13 rfl ?_
    exact T.sub ((w_X12_frozen_p32) M5 r6 hF) [] [] rfl rfl
theorem k_X12_frozen (G : EG) (M : Mem) (a0 : Nat) (a1 : Int32) (q : Mem × Int32) (h : F_X12_frozen M a0 a1 = some q) : Kt yX12_frozen P_X12_frozen M [(a0, 14)] [.ref a0, .int a1] (RI G q) := Kt.of (by decide +kernel) rfl (Nat.le_of_ble_eq_true rfl) rfl (fun X hz => w_X12_frozen M a0 a1 h)
set_option maxHeartbeats 4000000 in
theorem w_X12_given_p22 {X : Option Cx} {G : EG} {res : Mem × Int64} : ∀ (M : Mem) (y0 : Int64), F_X12_given_p22 M y0 = some res → T X (RJ G res) P_X12_given M [] [] [.long y0] 22 := by
  intro M y0 hF
  unfold F_X12_given_p22 at hF
  exact r_lret (pc := 22) dX12_given_22 hF
set_option maxHeartbeats 4000000 in
theorem w_X12_given {X : Option Cx} {G : EG} {res : Mem × Int64} (M : Mem) (a0 : Nat) (a1 : Int32) (hF : F_X12_given M a0 a1 = some res) : T X (RJ G res) P_X12_given M [(a0, 14)] [(0, .ref a0), (1, .int a1)] [] 0 := by
  unfold F_X12_given at hF
  refine r_aload_n (pc := 0) 0 dX12_given_0 rfl rfl ?_
  refine r_iload_n (pc := 1) 1 dX12_given_1 rfl rfl ?_
  refine r_callV_I (pc := 2) (Py := P_X12_isBore) (n := 1) (As := [.int a1]) (fun q e => k_X12_isBore G _ a0 a1 q e) (c := 13) (Tb := TX12) (N := 58) rfl (by decide) (j0 := 0) rfl tw_1338 tw_1340 tw_41 tw_70 tw_1341 hd_X12_isBore ⟨Nat.le_of_ble_eq_true rfl, Nat.le_of_ble_eq_true rfl⟩ rfl [0] rfl rfl (Nat.le_of_ble_eq_true rfl) dX12_given_2 hF (fun M1 r2 hF => ?_)
  refine r_if_eq (pc := 5) (tgt := 17) dX12_given_5 rfl hF (fun hF => ?_) (fun hF => ?_)
  · refine r_aload_n (pc := 17) 0 dX12_given_17 rfl rfl ?_
    refine r_iconst (pc := 18) (w := -1) dX12_given_18 (by decide) ?_
    refine r_callV_J (pc := 19) (Py := P_X12_refuseLong) (n := 1) (As := [.int ((-1 : Int32))]) (fun q e => k_X12_refuseLong G _ a0 (-1 : Int32) q e) (c := 13) (Tb := TX12) (N := 58) rfl (by decide) (j0 := 0) rfl tw_1361 tw_1363 tw_43 tw_70 tw_1364 hd_X12_refuseLong ⟨Nat.le_of_ble_eq_true rfl, Nat.le_of_ble_eq_true rfl⟩ rfl [0] rfl rfl (Nat.le_of_ble_eq_true rfl) dX12_given_19 hF (fun M3 r4 hF => ?_)
    exact T.sub ((w_X12_given_p22) M3 r4 hF) [] [] rfl rfl
  · refine r_aload_n (pc := 8) 0 dX12_given_8 rfl rfl ?_
    refine gf_X12_45 (pc := 9) (j := 0) rfl dX12_given_9 ?_
    refine r_lr (by decide) hF (fun b5 hF => ?_)
    refine r_iload_n (pc := 12) 1 dX12_given_12 rfl rfl ?_
    refine r_lald (pc := 13) (j := 0) rfl dX12_given_13 hF (fun hF => ?_)
    refine r_goto (pc := 14) (tgt := 22) dX12_given_14 rfl ?_
    exact T.sub ((w_X12_given_p22) M1 (gB M1 b5 (ixn a1)) hF) [] [] rfl rfl
theorem k_X12_given (G : EG) (M : Mem) (a0 : Nat) (a1 : Int32) (q : Mem × Int64) (h : F_X12_given M a0 a1 = some q) : Kt yX12_given P_X12_given M [(a0, 14)] [.ref a0, .int a1] (RJ G q) := Kt.of (by decide +kernel) rfl (Nat.le_of_ble_eq_true rfl) rfl (fun X hz => w_X12_given M a0 a1 h)
set_option maxHeartbeats 4000000 in
theorem w_X12_givenBy_p18 {X : Option Cx} {G : EG} {res : Mem × Int64} {k34 : Mem → Nat → Int32 → Option (Mem × Int64)} (hk34 : ∀ (M : Mem) (x0 : Nat) (x1 : Int32), k34 M x0 x1 = some res → T X (RJ G res) P_X12_givenBy M [(x0, 14)] [(0, .ref x0), (1, .int x1)] [] 34) : ∀ (n : Nat) (M : Mem) (x0 : Nat) (x1 : Int32) (x3 : Int32) (x4 : Int32), F_X12_givenBy_p18 k34 n M x0 x1 x3 x4 = some res → T X (RJ G res) P_X12_givenBy M [(x0, 14)] [(0, .ref x0), (1, .int x1), (3, .int x3), (4, .int x4)] [] 18 := by
  intro n
  induction n with
  | zero =>
    intro M x0 x1 x3 x4 hF
    cases hF
  | succ n ih =>
    intro M x0 x1 x3 x4 hF
    unfold F_X12_givenBy_p18 at hF
    refine r_iload (pc := 18) 3 dX12_givenBy_18 rfl ?_
    refine r_iload_n (pc := 20) 2 dX12_givenBy_20 rfl rfl ?_
    refine r_icmp_ge (pc := 21) (tgt := 34) dX12_givenBy_21 rfl hF (fun hF => ?_) (fun hF => ?_)
    · exact T.sub (hk34 M x0 x1 hF) [0] [0, 1] rfl rfl
    · refine r_aload_n (pc := 24) 0 dX12_givenBy_24 rfl rfl ?_
      refine r_callV_V (pc := 25) (Py := P_X12_goes) (n := 0) (As := []) (fun q e => k_X12_goes G _ x0 q e) (c := 13) (Tb := TX12) (N := 58) rfl (by decide) (j0 := 0) rfl tw_1270 tw_1272 tw_29 tw_70 tw_1273 hd_X12_goes ⟨Nat.le_of_ble_eq_true rfl, Nat.le_of_ble_eq_true rfl⟩ rfl [0] rfl rfl (Nat.le_of_ble_eq_true rfl) dX12_givenBy_25 hF (fun M1 r2 hF => ?_)
      obtain ⟨v3, e9, hF⟩ := bnd_e hF
      refine r_iinc (pc := 28) (w := v3) (k := 3) (L1 := [(4, .int v3), (0, .ref x0), (1, .int x1), (3, .int x3)]) dX12_givenBy_28 rfl (by rw [e9]; rfl) (by decide) rfl ?_
      clear e9
      refine r_goto (pc := 31) (tgt := 18) dX12_givenBy_31 rfl ?_
      exact T.sub (ih M1 x0 x1 x3 v3 hF) [0] [1, 2, 3, 0] rfl rfl
set_option maxHeartbeats 4000000 in
theorem w_X12_givenBy_p34 {X : Option Cx} {G : EG} {res : Mem × Int64} : ∀ (M : Mem) (x0 : Nat) (x1 : Int32), F_X12_givenBy_p34 M x0 x1 = some res → T X (RJ G res) P_X12_givenBy M [(x0, 14)] [(0, .ref x0), (1, .int x1)] [] 34 := by
  intro M x0 x1 hF
  unfold F_X12_givenBy_p34 at hF
  refine r_aload_n (pc := 34) 0 dX12_givenBy_34 rfl rfl ?_
  refine gf_X12_45 (pc := 35) (j := 0) rfl dX12_givenBy_35 ?_
  refine r_lr (by decide) hF (fun b1 hF => ?_)
  refine r_iload_n (pc := 38) 1 dX12_givenBy_38 rfl rfl ?_
  refine r_lald (pc := 39) (j := 0) rfl dX12_givenBy_39 hF (fun hF => ?_)
  refine r_aload_n (pc := 40) 0 dX12_givenBy_40 rfl rfl ?_
  refine gf_X12_133 (pc := 41) (j := 1) rfl dX12_givenBy_41 ?_
  refine r_lr (by decide) hF (fun b2 hF => ?_)
  refine r_iload_n (pc := 44) 1 dX12_givenBy_44 rfl rfl ?_
  refine r_lald (pc := 45) (j := 0) rfl dX12_givenBy_45 hF (fun hF => ?_)
  refine r_lsub (pc := 46) dX12_givenBy_46 ?_
  refine r_gJ (pc := 47) hF (fun v3 hF => ?_)
  refine r_lstore (pc := 47) (L1 := [(4, .long v3), (0, .ref x0), (1, .int x1)]) dX12_givenBy_47 (by decide) rfl ?_
  refine r_aload_n (pc := 49) 1 dX12_givenBy_49 rfl rfl ?_
  refine r_callV_V (pc := 50) (Py := P_X12_laysBack) (n := 0) (As := []) (fun q e => k_X12_laysBack G _ x0 q e) (c := 13) (Tb := TX12) (N := 58) rfl (by decide) (j0 := 2) rfl tw_1482 tw_1484 tw_53 tw_70 tw_1485 hd_X12_laysBack ⟨Nat.le_of_ble_eq_true rfl, Nat.le_of_ble_eq_true rfl⟩ rfl [2] rfl rfl (Nat.le_of_ble_eq_true rfl) dX12_givenBy_50 hF (fun M4 r5 hF => ?_)
  refine r_lload (pc := 53) 0 dX12_givenBy_53 rfl ?_
  exact r_lret (pc := 55) dX12_givenBy_55 hF
set_option maxHeartbeats 4000000 in
theorem w_X12_givenBy_p15 {X : Option Cx} {G : EG} {res : Mem × Int64} : ∀ (M : Mem) (x0 : Nat) (x1 : Int32) (x3 : Int32), F_X12_givenBy_p15 M x0 x1 x3 = some res → T X (RJ G res) P_X12_givenBy M [(x0, 14)] [(0, .ref x0), (1, .int x1), (3, .int x3)] [] 15 := by
  intro M x0 x1 x3 hF
  unfold F_X12_givenBy_p15 at hF
  refine r_iconst (pc := 15) (w := 0) dX12_givenBy_15 (by decide) ?_
  refine r_istore (pc := 16) (L1 := [(4, .int ((0 : Int32))), (0, .ref x0), (1, .int x1), (3, .int x3)]) dX12_givenBy_16 (by decide) rfl ?_
  exact T.sub ((w_X12_givenBy_p18 (w_X12_givenBy_p34) FU) M x0 x1 x3 (0 : Int32) hF) [0] [1, 2, 3, 0] rfl rfl
set_option maxHeartbeats 4000000 in
theorem w_X12_givenBy {X : Option Cx} {G : EG} {res : Mem × Int64} (M : Mem) (a0 : Nat) (a1 : Int32) (a2 : Int32) (a3 : Int32) (hF : F_X12_givenBy M a0 a1 a2 a3 = some res) : T X (RJ G res) P_X12_givenBy M [(a0, 14)] [(0, .ref a0), (1, .int a1), (2, .int a2), (3, .int a3)] [] 0 := by
  unfold F_X12_givenBy at hF
  refine r_aload_n (pc := 0) 0 dX12_givenBy_0 rfl rfl ?_
  refine r_callV_V (pc := 1) (Py := P_X12_keeps) (n := 0) (As := []) (fun q e => k_X12_keeps G _ a0 q e) (c := 13) (Tb := TX12) (N := 58) rfl (by decide) (j0 := 0) rfl tw_1477 tw_1479 tw_52 tw_70 tw_1480 hd_X12_keeps ⟨Nat.le_of_ble_eq_true rfl, Nat.le_of_ble_eq_true rfl⟩ rfl [0] rfl rfl (Nat.le_of_ble_eq_true rfl) dX12_givenBy_1 hF (fun M1 r2 hF => ?_)
  refine r_iload_n (pc := 4) 2 dX12_givenBy_4 rfl rfl ?_
  refine r_if_lt (pc := 5) (tgt := 15) dX12_givenBy_5 rfl hF (fun hF => ?_) (fun hF => ?_)
  · exact T.sub ((w_X12_givenBy_p15) M1 a0 a1 a3 hF) [0] [0, 1, 3] rfl rfl
  · refine r_aload_n (pc := 8) 0 dX12_givenBy_8 rfl rfl ?_
    refine gf_X12_37 (pc := 9) (j := 0) rfl dX12_givenBy_9 ?_
    refine r_lr (by decide) hF (fun b3 hF => ?_)
    refine r_iload_n (pc := 12) 2 dX12_givenBy_12 rfl rfl ?_
    refine r_iconst (pc := 13) (w := 0) dX12_givenBy_13 (by decide) ?_
    refine r_zast (pc := 14) (j := 0) rfl dX12_givenBy_14 hF (fun M4 hF => ?_)
    exact T.sub ((w_X12_givenBy_p15) M4 a0 a1 a3 hF) [1] [0, 1, 3] rfl rfl
theorem k_X12_givenBy (G : EG) (M : Mem) (a0 : Nat) (a1 : Int32) (a2 : Int32) (a3 : Int32) (q : Mem × Int64) (h : F_X12_givenBy M a0 a1 a2 a3 = some q) : Kt yX12_givenBy P_X12_givenBy M [(a0, 14)] [.ref a0, .int a1, .int a2, .int a3] (RJ G q) := Kt.of (by decide +kernel) rfl (Nat.le_of_ble_eq_true rfl) rfl (fun X hz => w_X12_givenBy M a0 a1 a2 a3 h)
set_option maxHeartbeats 4000000 in
theorem w_X12_isRing_p31 {X : Option Cx} {G : EG} {res : Mem × Int32} : ∀ (M : Mem) (y0 : Int32), F_X12_isRing_p31 M y0 = some res → T X (RI G res) P_X12_isRing M [] [] [.int y0] 31 := by
  intro M y0 hF
  unfold F_X12_isRing_p31 at hF
  exact r_zret (pc := 31) dX12_isRing_31 hF
set_option maxHeartbeats 4000000 in
theorem w_X12_isRing_p30 {X : Option Cx} {G : EG} {res : Mem × Int32} : ∀ (M : Mem), F_X12_isRing_p30 M = some res → T X (RI G res) P_X12_isRing M [] [] [] 30 := by
  intro M hF
  unfold F_X12_isRing_p30 at hF
  refine r_iconst (pc := 30) (w := 0) dX12_isRing_30 (by decide) ?_
  exact T.sub ((w_X12_isRing_p31) M (0 : Int32) hF) [] [] rfl rfl
set_option maxHeartbeats 4000000 in
theorem w_X12_isRing {X : Option Cx} {G : EG} {res : Mem × Int32} (M : Mem) (a0 : Nat) (a1 : Int32) (a2 : Int32) (hF : F_X12_isRing M a0 a1 a2 = some res) : T X (RI G res) P_X12_isRing M [(a0, 14)] [(0, .ref a0), (1, .int a1), (2, .int a2)] [] 0 := by
  unfold F_X12_isRing at hF
  refine r_aload_n (pc := 0) 0 dX12_isRing_0 rfl rfl ?_
  refine r_iload_n (pc := 1) 1 dX12_isRing_1 rfl rfl ?_
  refine r_callV_I (pc := 2) (Py := P_X12_isBore) (n := 1) (As := [.int a1]) (fun q e => k_X12_isBore G _ a0 a1 q e) (c := 13) (Tb := TX12) (N := 58) rfl (by decide) (j0 := 0) rfl tw_1338 tw_1340 tw_41 tw_70 tw_1341 hd_X12_isBore ⟨Nat.le_of_ble_eq_true rfl, Nat.le_of_ble_eq_true rfl⟩ rfl [0] rfl rfl (Nat.le_of_ble_eq_true rfl) dX12_isRing_2 hF (fun M1 r2 hF => ?_)
  refine r_if_eq (pc := 5) (tgt := 30) dX12_isRing_5 rfl hF (fun hF => ?_) (fun hF => ?_)
  · exact T.sub ((w_X12_isRing_p30) M1 hF) [] [] rfl rfl
  · refine r_iload_n (pc := 8) 2 dX12_isRing_8 rfl rfl ?_
    refine r_i2l (pc := 9) dX12_isRing_9 ?_
    refine r_lconst (pc := 10) (w := 0) dX12_isRing_10 (by decide) ?_
    refine r_aload_n (pc := 11) 0 dX12_isRing_11 rfl rfl ?_
    refine gf_X12_19 (pc := 12) (j := 0) rfl dX12_isRing_12 ?_
    refine r_lr (by decide) hF (fun b3 hF => ?_)
    refine r_iload_n (pc := 15) 1 dX12_isRing_15 rfl rfl ?_
    refine r_iald (pc := 16) (j := 0) rfl dX12_isRing_16 hF (fun hF => ?_)
    refine r_iconst (pc := 17) (w := 1) dX12_isRing_17 (by decide) ?_
    refine r_isub (pc := 18) dX12_isRing_18 ?_
    refine r_i2l (pc := 19) dX12_isRing_19 ?_
    refine r_callS_I (pc := 20) (Py := P_X12_in) (n := 3) (As := [.long (a2.toInt64), .long ((0 : Int64)), .long (((gA M1 b3 (ixn a1)) - (1 : Int32)).toInt64)]) (fun q e => k_X12_in G _ (a2.toInt64) (0 : Int64) (((gA M1 b3 (ixn a1)) - (1 : Int32)).toInt64) q e) tw_1342 tw_1343 tw_70 tw_1344 hd_X12_in ⟨Nat.le_of_ble_eq_true rfl, Nat.le_of_ble_eq_true rfl⟩ rfl [] rfl rfl (Nat.le_of_ble_eq_true rfl) dX12_isRing_20 hF (fun M4 r5 hF => ?_)
    refine r_if_eq (pc := 23) (tgt := 30) dX12_isRing_23 rfl hF (fun hF => ?_) (fun hF => ?_)
    · exact T.sub ((w_X12_isRing_p30) M4 hF) [] [] rfl rfl
    · refine r_iconst (pc := 26) (w := 1) dX12_isRing_26 (by decide) ?_
      refine r_goto (pc := 27) (tgt := 31) dX12_isRing_27 rfl ?_
      exact T.sub ((w_X12_isRing_p31) M4 (1 : Int32) hF) [] [] rfl rfl
theorem k_X12_isRing (G : EG) (M : Mem) (a0 : Nat) (a1 : Int32) (a2 : Int32) (q : Mem × Int32) (h : F_X12_isRing M a0 a1 a2 = some q) : Kt yX12_isRing P_X12_isRing M [(a0, 14)] [.ref a0, .int a1, .int a2] (RI G q) := Kt.of (by decide +kernel) rfl (Nat.le_of_ble_eq_true rfl) rfl (fun X hz => w_X12_isRing M a0 a1 a2 h)
set_option maxHeartbeats 4000000 in
theorem w_X12_heat_p28 {X : Option Cx} {G : EG} {res : Mem × Int64} : ∀ (M : Mem) (y0 : Int64), F_X12_heat_p28 M y0 = some res → T X (RJ G res) P_X12_heat M [] [] [.long y0] 28 := by
  intro M y0 hF
  unfold F_X12_heat_p28 at hF
  exact r_lret (pc := 28) dX12_heat_28 hF
set_option maxHeartbeats 4000000 in
theorem w_X12_heat {X : Option Cx} {G : EG} {res : Mem × Int64} (M : Mem) (a0 : Nat) (a1 : Int32) (a2 : Int32) (hF : F_X12_heat M a0 a1 a2 = some res) : T X (RJ G res) P_X12_heat M [(a0, 14)] [(0, .ref a0), (1, .int a1), (2, .int a2)] [] 0 := by
  unfold F_X12_heat at hF
  refine r_aload_n (pc := 0) 0 dX12_heat_0 rfl rfl ?_
  refine r_iload_n (pc := 1) 1 dX12_heat_1 rfl rfl ?_
  refine r_iload_n (pc := 2) 2 dX12_heat_2 rfl rfl ?_
  refine r_callV_I (pc := 3) (Py := P_X12_isRing) (n := 2) (As := [.int a1, .int a2]) (fun q e => k_X12_isRing G _ a0 a1 a2 q e) (c := 13) (Tb := TX12) (N := 58) rfl (by decide) (j0 := 0) rfl tw_1357 tw_1359 tw_42 tw_70 tw_1360 hd_X12_isRing ⟨Nat.le_of_ble_eq_true rfl, Nat.le_of_ble_eq_true rfl⟩ rfl [0] rfl rfl (Nat.le_of_ble_eq_true rfl) dX12_heat_3 hF (fun M1 r2 hF => ?_)
  refine r_if_eq (pc := 6) (tgt := 23) dX12_heat_6 rfl hF (fun hF => ?_) (fun hF => ?_)
  · refine r_aload_n (pc := 23) 0 dX12_heat_23 rfl rfl ?_
    refine r_iconst (pc := 24) (w := -1) dX12_heat_24 (by decide) ?_
    refine r_callV_J (pc := 25) (Py := P_X12_refuseLong) (n := 1) (As := [.int ((-1 : Int32))]) (fun q e => k_X12_refuseLong G _ a0 (-1 : Int32) q e) (c := 13) (Tb := TX12) (N := 58) rfl (by decide) (j0 := 0) rfl tw_1361 tw_1363 tw_43 tw_70 tw_1364 hd_X12_refuseLong ⟨Nat.le_of_ble_eq_true rfl, Nat.le_of_ble_eq_true rfl⟩ rfl [0] rfl rfl (Nat.le_of_ble_eq_true rfl) dX12_heat_25 hF (fun M3 r4 hF => ?_)
    exact T.sub ((w_X12_heat_p28) M3 r4 hF) [] [] rfl rfl
  · refine r_aload_n (pc := 9) 0 dX12_heat_9 rfl rfl ?_
    refine gf_X12_41 (pc := 10) (j := 0) rfl dX12_heat_10 ?_
    refine r_lr (by decide) hF (fun b5 hF => ?_)
    refine r_bipush (pc := 13) (w := 8) dX12_heat_13 (by decide) ?_
    refine r_iload_n (pc := 15) 1 dX12_heat_15 rfl rfl ?_
    refine r_imul (pc := 16) dX12_heat_16 ?_
    refine r_iload_n (pc := 17) 2 dX12_heat_17 rfl rfl ?_
    refine r_iadd (pc := 18) dX12_heat_18 ?_
    refine r_lald (pc := 19) (j := 0) rfl dX12_heat_19 hF (fun hF => ?_)
    refine r_goto (pc := 20) (tgt := 28) dX12_heat_20 rfl ?_
    exact T.sub ((w_X12_heat_p28) M1 (gB M1 b5 (ixn (((8 : Int32) * a1) + a2))) hF) [] [] rfl rfl
theorem k_X12_heat (G : EG) (M : Mem) (a0 : Nat) (a1 : Int32) (a2 : Int32) (q : Mem × Int64) (h : F_X12_heat M a0 a1 a2 = some q) : Kt yX12_heat P_X12_heat M [(a0, 14)] [.ref a0, .int a1, .int a2] (RJ G q) := Kt.of (by decide +kernel) rfl (Nat.le_of_ble_eq_true rfl) rfl (fun X hz => w_X12_heat M a0 a1 a2 h)
set_option maxHeartbeats 4000000 in
theorem w_X12_hours_p33 {X : Option Cx} {G : EG} {res : Mem × Int32} {k48 : Mem → Nat → Option (Mem × Int32)} (hk48 : ∀ (M : Mem) (x0 : Nat), k48 M x0 = some res → T X (RI G res) P_X12_hours M [(x0, 14)] [(0, .ref x0)] [] 48) : ∀ (n : Nat) (M : Mem) (x0 : Nat) (x1 : Int32) (x2 : Int32), F_X12_hours_p33 k48 n M x0 x1 x2 = some res → T X (RI G res) P_X12_hours M [(x0, 14)] [(0, .ref x0), (1, .int x1), (2, .int x2)] [] 33 := by
  intro n
  induction n with
  | zero =>
    intro M x0 x1 x2 hF
    cases hF
  | succ n ih =>
    intro M x0 x1 x2 hF
    unfold F_X12_hours_p33 at hF
    refine r_iload_n (pc := 33) 2 dX12_hours_33 rfl rfl ?_
    refine r_iload_n (pc := 34) 1 dX12_hours_34 rfl rfl ?_
    refine r_icmp_ge (pc := 35) (tgt := 48) dX12_hours_35 rfl hF (fun hF => ?_) (fun hF => ?_)
    · exact T.sub (hk48 M x0 hF) [0] [0] rfl rfl
    · refine r_aload_n (pc := 38) 0 dX12_hours_38 rfl rfl ?_
      refine r_callV_V (pc := 39) (Py := P_X12_goes) (n := 0) (As := []) (fun q e => k_X12_goes G _ x0 q e) (c := 13) (Tb := TX12) (N := 58) rfl (by decide) (j0 := 0) rfl tw_1270 tw_1272 tw_29 tw_70 tw_1273 hd_X12_goes ⟨Nat.le_of_ble_eq_true rfl, Nat.le_of_ble_eq_true rfl⟩ rfl [0] rfl rfl (Nat.le_of_ble_eq_true rfl) dX12_hours_39 hF (fun M1 r2 hF => ?_)
      obtain ⟨v3, e9, hF⟩ := bnd_e hF
      refine r_iinc (pc := 42) (w := v3) (k := 2) (L1 := [(2, .int v3), (0, .ref x0), (1, .int x1)]) dX12_hours_42 rfl (by rw [e9]; rfl) (by decide) rfl ?_
      clear e9
      refine r_goto (pc := 45) (tgt := 33) dX12_hours_45 rfl ?_
      exact T.sub (ih M1 x0 x1 v3 hF) [0] [1, 2, 0] rfl rfl
set_option maxHeartbeats 4000000 in
theorem w_X12_hours_p48 {X : Option Cx} {G : EG} {res : Mem × Int32} : ∀ (M : Mem) (x0 : Nat), F_X12_hours_p48 M x0 = some res → T X (RI G res) P_X12_hours M [(x0, 14)] [(0, .ref x0)] [] 48 := by
  intro M x0 hF
  unfold F_X12_hours_p48 at hF
  refine r_aload_n (pc := 48) 0 dX12_hours_48 rfl rfl ?_
  refine gf_X12_167 (pc := 49) (j := 0) rfl dX12_hours_49 ?_
  exact r_iret (pc := 52) dX12_hours_52 hF
set_option maxHeartbeats 4000000 in
theorem w_X12_hours {X : Option Cx} {G : EG} {res : Mem × Int32} (M : Mem) (a0 : Nat) (a1 : Int32) (hF : F_X12_hours M a0 a1 = some res) : T X (RI G res) P_X12_hours M [(a0, 14)] [(0, .ref a0), (1, .int a1)] [] 0 := by
  unfold F_X12_hours at hF
  refine r_iload_n (pc := 0) 1 dX12_hours_0 rfl rfl ?_
  refine r_iconst (pc := 1) (w := 1) dX12_hours_1 (by decide) ?_
  refine r_icmp_ge (pc := 2) (tgt := 12) dX12_hours_2 rfl hF (fun hF => ?_) (fun hF => ?_)
  · refine r_iload_n (pc := 12) 1 dX12_hours_12 rfl rfl ?_
    refine r_sipush (pc := 13) (w := 8000) dX12_hours_13 (by decide) ?_
    refine r_aload_n (pc := 16) 0 dX12_hours_16 rfl rfl ?_
    refine gf_X12_167 (pc := 17) (j := 0) rfl dX12_hours_17 ?_
    refine r_isub (pc := 20) dX12_hours_20 ?_
    refine r_icmp_le (pc := 21) (tgt := 31) dX12_hours_21 rfl hF (fun hF => ?_) (fun hF => ?_)
    · refine r_iconst (pc := 31) (w := 0) dX12_hours_31 (by decide) ?_
      refine r_istore_n (pc := 32) (L1 := [(2, .int ((0 : Int32))), (0, .ref a0), (1, .int a1)]) dX12_hours_32 rfl (by decide) rfl ?_
      exact T.sub ((w_X12_hours_p33 (w_X12_hours_p48) FU) M a0 a1 (0 : Int32) hF) [0] [1, 2, 0] rfl rfl
    · refine r_aload_n (pc := 24) 0 dX12_hours_24 rfl rfl ?_
      refine r_bipush (pc := 25) (w := -6) dX12_hours_25 (by decide) ?_
      refine r_callV_I (pc := 27) (Py := P_X12_refuse) (n := 1) (As := [.int ((-6 : Int32))]) (fun q e => k_X12_refuse G _ a0 (-6 : Int32) q e) (c := 13) (Tb := TX12) (N := 58) rfl (by decide) (j0 := 0) rfl tw_1266 tw_1268 tw_28 tw_70 tw_1269 hd_X12_refuse ⟨Nat.le_of_ble_eq_true rfl, Nat.le_of_ble_eq_true rfl⟩ rfl [0] rfl rfl (Nat.le_of_ble_eq_true rfl) dX12_hours_27 hF (fun M1 r2 hF => ?_)
      exact r_iret (pc := 30) dX12_hours_30 hF
  · refine r_aload_n (pc := 5) 0 dX12_hours_5 rfl rfl ?_
    refine r_bipush (pc := 6) (w := -4) dX12_hours_6 (by decide) ?_
    refine r_callV_I (pc := 8) (Py := P_X12_refuse) (n := 1) (As := [.int ((-4 : Int32))]) (fun q e => k_X12_refuse G _ a0 (-4 : Int32) q e) (c := 13) (Tb := TX12) (N := 58) rfl (by decide) (j0 := 0) rfl tw_1266 tw_1268 tw_28 tw_70 tw_1269 hd_X12_refuse ⟨Nat.le_of_ble_eq_true rfl, Nat.le_of_ble_eq_true rfl⟩ rfl [0] rfl rfl (Nat.le_of_ble_eq_true rfl) dX12_hours_8 hF (fun M3 r4 hF => ?_)
    exact r_iret (pc := 11) dX12_hours_11 hF
theorem k_X12_hours (G : EG) (M : Mem) (a0 : Nat) (a1 : Int32) (q : Mem × Int32) (h : F_X12_hours M a0 a1 = some q) : Kt yX12_hours P_X12_hours M [(a0, 14)] [.ref a0, .int a1] (RI G q) := Kt.of (by decide +kernel) rfl (Nat.le_of_ble_eq_true rfl) rfl (fun X hz => w_X12_hours M a0 a1 h)
set_option maxHeartbeats 4000000 in
theorem w_X12_house_p12 {X : Option Cx} {G : EG} {res : Mem × Int32} : ∀ (M : Mem) (x0 : Nat), F_X12_house_p12 M x0 = some res → T X (RI G res) P_X12_house M [(x0, 14)] [(0, .ref x0)] [] 12 := by
  intro M x0 hF
  unfold F_X12_house_p12 at hF
  refine r_aload_n (pc := 12) 0 dX12_house_12 rfl rfl ?_
  refine r_bipush (pc := 13) (w := -4) dX12_house_13 (by decide) ?_
  refine r_callV_I (pc := 15) (Py := P_X12_refuse) (n := 1) (As := [.int ((-4 : Int32))]) (fun q e => k_X12_refuse G _ x0 (-4 : Int32) q e) (c := 13) (Tb := TX12) (N := 58) rfl (by decide) (j0 := 0) rfl tw_1266 tw_1268 tw_28 tw_70 tw_1269 hd_X12_refuse ⟨Nat.le_of_ble_eq_true rfl, Nat.le_of_ble_eq_true rfl⟩ rfl [0] rfl rfl (Nat.le_of_ble_eq_true rfl) dX12_house_15 hF (fun M1 r2 hF => ?_)
  exact r_iret (pc := 18) dX12_house_18 hF
set_option maxHeartbeats 4000000 in
theorem w_X12_house_p48 {X : Option Cx} {G : EG} {res : Mem × Int32} : ∀ (M : Mem) (x0 : Nat), F_X12_house_p48 M x0 = some res → T X (RI G res) P_X12_house M [(x0, 14)] [(0, .ref x0)] [] 48 := by
  intro M x0 hF
  unfold F_X12_house_p48 at hF
  refine r_aload_n (pc := 48) 0 dX12_house_48 rfl rfl ?_
  refine r_bipush (pc := 49) (w := -6) dX12_house_49 (by decide) ?_
  refine r_callV_I (pc := 51) (Py := P_X12_refuse) (n := 1) (As := [.int ((-6 : Int32))]) (fun q e => k_X12_refuse G _ x0 (-6 : Int32) q e) (c := 13) (Tb := TX12) (N := 58) rfl (by decide) (j0 := 0) rfl tw_1266 tw_1268 tw_28 tw_70 tw_1269 hd_X12_refuse ⟨Nat.le_of_ble_eq_true rfl, Nat.le_of_ble_eq_true rfl⟩ rfl [0] rfl rfl (Nat.le_of_ble_eq_true rfl) dX12_house_51 hF (fun M1 r2 hF => ?_)
  exact r_iret (pc := 54) dX12_house_54 hF
set_option maxHeartbeats 4000000 in
theorem w_X12_house {X : Option Cx} {G : EG} {res : Mem × Int32} (M : Mem) (a0 : Nat) (a1 : Int32) (a2 : Int32) (a3 : Int32) (hF : F_X12_house M a0 a1 a2 a3 = some res) : T X (RI G res) P_X12_house M [(a0, 14)] [(0, .ref a0), (1, .int a1), (2, .int a2), (3, .int a3)] [] 0 := by
  unfold F_X12_house at hF
  refine r_iload_n (pc := 0) 1 dX12_house_0 rfl rfl ?_
  refine r_if_lt (pc := 1) (tgt := 12) dX12_house_1 rfl hF (fun hF => ?_) (fun hF => ?_)
  · exact T.sub ((w_X12_house_p12) M a0 hF) [0] [0] rfl rfl
  · refine r_iload_n (pc := 4) 2 dX12_house_4 rfl rfl ?_
    refine r_if_lt (pc := 5) (tgt := 12) dX12_house_5 rfl hF (fun hF => ?_) (fun hF => ?_)
    · exact T.sub ((w_X12_house_p12) M a0 hF) [0] [0] rfl rfl
    · refine r_iload_n (pc := 8) 3 dX12_house_8 rfl rfl ?_
      refine r_if_ge (pc := 9) (tgt := 19) dX12_house_9 rfl hF (fun hF => ?_) (fun hF => ?_)
      · refine r_iload_n (pc := 19) 1 dX12_house_19 rfl rfl ?_
        refine r_sipush (pc := 20) (w := 9999) dX12_house_20 (by decide) ?_
        refine r_icmp_gt (pc := 23) (tgt := 48) dX12_house_23 rfl hF (fun hF => ?_) (fun hF => ?_)
        · exact T.sub ((w_X12_house_p48) M a0 hF) [0] [0] rfl rfl
        · refine r_iload_n (pc := 26) 2 dX12_house_26 rfl rfl ?_
          refine r_sipush (pc := 27) (w := 999) dX12_house_27 (by decide) ?_
          refine r_icmp_gt (pc := 30) (tgt := 48) dX12_house_30 rfl hF (fun hF => ?_) (fun hF => ?_)
          · exact T.sub ((w_X12_house_p48) M a0 hF) [0] [0] rfl rfl
          · refine r_iload_n (pc := 33) 3 dX12_house_33 rfl rfl ?_
            refine r_ldc (pc := 34) (w := 16777215) tw_1378 dX12_house_34 ?_
            refine r_icmp_gt (pc := 36) (tgt := 48) dX12_house_36 rfl hF (fun hF => ?_) (fun hF => ?_)
            · exact T.sub ((w_X12_house_p48) M a0 hF) [0] [0] rfl rfl
            · refine r_aload_n (pc := 39) 0 dX12_house_39 rfl rfl ?_
              refine gf_X12_196 (pc := 40) (j := 0) rfl dX12_house_40 ?_
              refine r_bipush (pc := 43) (w := 20) dX12_house_43 (by decide) ?_
              refine r_icmp_ne (pc := 45) (tgt := 55) dX12_house_45 rfl hF (fun hF => ?_) (fun hF => ?_)
              · refine r_aload_n (pc := 55) 0 dX12_house_55 rfl rfl ?_
                refine gf_X12_51 (pc := 56) (j := 0) rfl dX12_house_56 ?_
                refine r_lr (by decide) hF (fun b1 hF => ?_)
                refine r_aload_n (pc := 59) 0 dX12_house_59 rfl rfl ?_
                refine gf_X12_196 (pc := 60) (j := 1) rfl dX12_house_60 ?_
                refine r_iload_n (pc := 63) 1 dX12_house_63 rfl rfl ?_
                refine r_iast (pc := 64) (j := 0) rfl dX12_house_64 hF (fun M2 hF => ?_)
                refine r_aload_n (pc := 65) 0 dX12_house_65 rfl rfl ?_
                refine gf_X12_54 (pc := 66) (j := 1) rfl dX12_house_66 ?_
                refine r_lr (by decide) hF (fun b3 hF => ?_)
                refine r_aload_n (pc := 69) 0 dX12_house_69 rfl rfl ?_
                refine gf_X12_196 (pc := 70) (j := 2) rfl dX12_house_70 ?_
                refine r_iload_n (pc := 73) 2 dX12_house_73 rfl rfl ?_
                refine r_iast (pc := 74) (j := 0) rfl dX12_house_74 hF (fun M4 hF => ?_)
                refine r_aload_n (pc := 75) 0 dX12_house_75 rfl rfl ?_
                refine gf_X12_57 (pc := 76) (j := 2) rfl dX12_house_76 ?_
                refine r_lr (by decide) hF (fun b5 hF => ?_)
                refine r_aload_n (pc := 79) 0 dX12_house_79 rfl rfl ?_
                refine gf_X12_196 (pc := 80) (j := 3) rfl dX12_house_80 ?_
                refine r_iload_n (pc := 83) 3 dX12_house_83 rfl rfl ?_
                refine r_iast (pc := 84) (j := 0) rfl dX12_house_84 hF (fun M6 hF => ?_)
                refine r_aload_n (pc := 85) 0 dX12_house_85 rfl rfl ?_
                refine r_dup (pc := 86) dX12_house_86 rfl ?_
                refine gf_X12_196 (pc := 87) (j := 3) rfl dX12_house_87 ?_
                refine r_iconst (pc := 90) (w := 1) dX12_house_90 (by decide) ?_
                refine r_iadd (pc := 91) dX12_house_91 ?_
                refine pf_X12_196 (pc := 92) (j := 3) rfl dX12_house_92 hF (fun M7 hF => ?_)
                refine r_aload_n (pc := 95) 0 dX12_house_95 rfl rfl ?_
                refine gf_X12_196 (pc := 96) (j := 3) rfl dX12_house_96 ?_
                refine r_iconst (pc := 99) (w := 1) dX12_house_99 (by decide) ?_
                refine r_isub (pc := 100) dX12_house_100 ?_
                exact r_iret (pc := 101) dX12_house_101 hF
              · exact T.sub ((w_X12_house_p48) M a0 hF) [0] [0] rfl rfl
      · exact T.sub ((w_X12_house_p12) M a0 hF) [0] [0] rfl rfl
theorem k_X12_house (G : EG) (M : Mem) (a0 : Nat) (a1 : Int32) (a2 : Int32) (a3 : Int32) (q : Mem × Int32) (h : F_X12_house M a0 a1 a2 a3 = some q) : Kt yX12_house P_X12_house M [(a0, 14)] [.ref a0, .int a1, .int a2, .int a3] (RI G q) := Kt.of (by decide +kernel) rfl (Nat.le_of_ble_eq_true rfl) rfl (fun X hz => w_X12_house M a0 a1 a2 a3 h)
set_option maxRecDepth 100000 in
set_option maxHeartbeats 4000000 in
theorem w_X12_init {X : Option Cx} {G : EG} {res : Mem × Unit} (hzi : ∀ x, X = some x → Zi x) (M : Mem) (a0 : Nat) (hF : F_X12_init M a0 = some res) : T X (RV G res) P_X12_init M [(a0, 14)] [(0, .ref a0)] [] 0 := by
  unfold F_X12_init at hF
  refine r_aload_n (pc := 0) 0 dX12_init_0 rfl rfl ?_
  refine r_objInit (pc := 1) tw_1085 tw_93 tw_94 ⟨Nat.le_of_ble_eq_true rfl, Nat.le_of_ble_eq_true rfl⟩ (Nat.le_of_ble_eq_true rfl) dX12_init_1 ?_
  refine r_aload_n (pc := 4) 0 dX12_init_4 rfl rfl ?_
  refine r_bipush (pc := 5) (w := 7) dX12_init_5 (by decide) ?_
  refine r_newI (pc := 7) tw_149 dX12_init_7 hF (fun b1 M2 hF => ?_)
  refine pf_X12_7 (pc := 9) hzi (w := (some b1)) (j := 1) rfl dX12_init_9 hF (fun M3 hF => ?_)
  refine r_aload_n (pc := 12) 0 dX12_init_12 rfl rfl ?_
  refine r_bipush (pc := 13) (w := 8) dX12_init_13 (by decide) ?_
  refine r_newI (pc := 15) tw_149 dX12_init_15 hF (fun b4 M5 hF => ?_)
  refine pf_X12_13 (pc := 17) hzi (w := (some b4)) (j := 2) rfl dX12_init_17 hF (fun M6 hF => ?_)
  refine r_aload_n (pc := 20) 0 dX12_init_20 rfl rfl ?_
  refine r_bipush (pc := 21) (w := 8) dX12_init_21 (by decide) ?_
  refine r_newI (pc := 23) tw_149 dX12_init_23 hF (fun b7 M8 hF => ?_)
  refine pf_X12_16 (pc := 25) hzi (w := (some b7)) (j := 3) rfl dX12_init_25 hF (fun M9 hF => ?_)
  refine r_aload_n (pc := 28) 0 dX12_init_28 rfl rfl ?_
  refine r_bipush (pc := 29) (w := 8) dX12_init_29 (by decide) ?_
  refine r_newI (pc := 31) tw_149 dX12_init_31 hF (fun b10 M11 hF => ?_)
  refine pf_X12_19 (pc := 33) hzi (w := (some b10)) (j := 4) rfl dX12_init_33 hF (fun M12 hF => ?_)
  refine r_aload_n (pc := 36) 0 dX12_init_36 rfl rfl ?_
  refine r_bipush (pc := 37) (w := 8) dX12_init_37 (by decide) ?_
  refine r_newI (pc := 39) tw_149 dX12_init_39 hF (fun b13 M14 hF => ?_)
  refine pf_X12_22 (pc := 41) hzi (w := (some b13)) (j := 5) rfl dX12_init_41 hF (fun M15 hF => ?_)
  refine r_aload_n (pc := 44) 0 dX12_init_44 rfl rfl ?_
  refine r_bipush (pc := 45) (w := 8) dX12_init_45 (by decide) ?_
  refine r_newI (pc := 47) tw_149 dX12_init_47 hF (fun b16 M17 hF => ?_)
  refine pf_X12_25 (pc := 49) hzi (w := (some b16)) (j := 6) rfl dX12_init_49 hF (fun M18 hF => ?_)
  refine r_aload_n (pc := 52) 0 dX12_init_52 rfl rfl ?_
  refine r_bipush (pc := 53) (w := 8) dX12_init_53 (by decide) ?_
  refine r_newI (pc := 55) tw_149 dX12_init_55 hF (fun b19 M20 hF => ?_)
  refine pf_X12_28 (pc := 57) hzi (w := (some b19)) (j := 7) rfl dX12_init_57 hF (fun M21 hF => ?_)
  refine r_aload_n (pc := 60) 0 dX12_init_60 rfl rfl ?_
  refine r_bipush (pc := 61) (w := 8) dX12_init_61 (by decide) ?_
  refine r_newI (pc := 63) tw_149 dX12_init_63 hF (fun b22 M23 hF => ?_)
  refine pf_X12_31 (pc := 65) hzi (w := (some b22)) (j := 8) rfl dX12_init_65 hF (fun M24 hF => ?_)
  refine r_aload_n (pc := 68) 0 dX12_init_68 rfl rfl ?_
  refine r_bipush (pc := 69) (w := 8) dX12_init_69 (by decide) ?_
  refine r_newI (pc := 71) tw_149 dX12_init_71 hF (fun b25 M26 hF => ?_)
  refine pf_X12_34 (pc := 73) hzi (w := (some b25)) (j := 9) rfl dX12_init_73 hF (fun M27 hF => ?_)
  refine r_aload_n (pc := 76) 0 dX12_init_76 rfl rfl ?_
  refine r_bipush (pc := 77) (w := 8) dX12_init_77 (by decide) ?_
  refine r_newZ (pc := 79) tw_1261 dX12_init_79 hF (fun b28 M29 hF => ?_)
  refine pf_X12_37 (pc := 81) hzi (w := (some b28)) (j := 10) rfl dX12_init_81 hF (fun M30 hF => ?_)
  refine r_aload_n (pc := 84) 0 dX12_init_84 rfl rfl ?_
  refine r_bipush (pc := 85) (w := 64) dX12_init_85 (by decide) ?_
  refine r_newJ (pc := 87) tw_186 dX12_init_87 hF (fun b31 M32 hF => ?_)
  refine pf_X12_41 (pc := 89) hzi (w := (some b31)) (j := 11) rfl dX12_init_89 hF (fun M33 hF => ?_)
  refine r_aload_n (pc := 92) 0 dX12_init_92 rfl rfl ?_
  refine r_bipush (pc := 93) (w := 8) dX12_init_93 (by decide) ?_
  refine r_newJ (pc := 95) tw_186 dX12_init_95 hF (fun b34 M35 hF => ?_)
  refine pf_X12_45 (pc := 97) hzi (w := (some b34)) (j := 12) rfl dX12_init_97 hF (fun M36 hF => ?_)
  refine r_aload_n (pc := 100) 0 dX12_init_100 rfl rfl ?_
  refine r_bipush (pc := 101) (w := 9) dX12_init_101 (by decide) ?_
  refine r_newJ (pc := 103) tw_186 dX12_init_103 hF (fun b37 M38 hF => ?_)
  refine pf_X12_48 (pc := 105) hzi (w := (some b37)) (j := 13) rfl dX12_init_105 hF (fun M39 hF => ?_)
  refine r_aload_n (pc := 108) 0 dX12_init_108 rfl rfl ?_
  refine r_bipush (pc := 109) (w := 20) dX12_init_109 (by decide) ?_
  refine r_newI (pc := 111) tw_149 dX12_init_111 hF (fun b40 M41 hF => ?_)
  refine pf_X12_51 (pc := 113) hzi (w := (some b40)) (j := 14) rfl dX12_init_113 hF (fun M42 hF => ?_)
  refine r_aload_n (pc := 116) 0 dX12_init_116 rfl rfl ?_
  refine r_bipush (pc := 117) (w := 20) dX12_init_117 (by decide) ?_
  refine r_newI (pc := 119) tw_149 dX12_init_119 hF (fun b43 M44 hF => ?_)
  refine pf_X12_54 (pc := 121) hzi (w := (some b43)) (j := 15) rfl dX12_init_121 hF (fun M45 hF => ?_)
  refine r_aload_n (pc := 124) 0 dX12_init_124 rfl rfl ?_
  refine r_bipush (pc := 125) (w := 20) dX12_init_125 (by decide) ?_
  refine r_newI (pc := 127) tw_149 dX12_init_127 hF (fun b46 M47 hF => ?_)
  refine pf_X12_57 (pc := 129) hzi (w := (some b46)) (j := 16) rfl dX12_init_129 hF (fun M48 hF => ?_)
  refine r_aload_n (pc := 132) 0 dX12_init_132 rfl rfl ?_
  refine r_bipush (pc := 133) (w := 20) dX12_init_133 (by decide) ?_
  refine r_newI (pc := 135) tw_149 dX12_init_135 hF (fun b49 M50 hF => ?_)
  refine r_dup (pc := 137) dX12_init_137 rfl ?_
  refine r_iconst (pc := 138) (w := 0) dX12_init_138 (by decide) ?_
  refine r_iconst (pc := 139) (w := -1) dX12_init_139 (by decide) ?_
  refine r_iast (pc := 140) (j := 0) rfl dX12_init_140 hF (fun M51 hF => ?_)
  refine r_dup (pc := 141) dX12_init_141 rfl ?_
  refine r_iconst (pc := 142) (w := 1) dX12_init_142 (by decide) ?_
  refine r_iconst (pc := 143) (w := -1) dX12_init_143 (by decide) ?_
  refine r_iast (pc := 144) (j := 0) rfl dX12_init_144 hF (fun M52 hF => ?_)
  refine r_dup (pc := 145) dX12_init_145 rfl ?_
  refine r_iconst (pc := 146) (w := 2) dX12_init_146 (by decide) ?_
  refine r_iconst (pc := 147) (w := -1) dX12_init_147 (by decide) ?_
  refine r_iast (pc := 148) (j := 0) rfl dX12_init_148 hF (fun M53 hF => ?_)
  refine r_dup (pc := 149) dX12_init_149 rfl ?_
  refine r_iconst (pc := 150) (w := 3) dX12_init_150 (by decide) ?_
  refine r_iconst (pc := 151) (w := -1) dX12_init_151 (by decide) ?_
  refine r_iast (pc := 152) (j := 0) rfl dX12_init_152 hF (fun M54 hF => ?_)
  refine r_dup (pc := 153) dX12_init_153 rfl ?_
  refine r_iconst (pc := 154) (w := 4) dX12_init_154 (by decide) ?_
  refine r_iconst (pc := 155) (w := -1) dX12_init_155 (by decide) ?_
  refine r_iast (pc := 156) (j := 0) rfl dX12_init_156 hF (fun M55 hF => ?_)
  refine r_dup (pc := 157) dX12_init_157 rfl ?_
  refine r_iconst (pc := 158) (w := 5) dX12_init_158 (by decide) ?_
  refine r_iconst (pc := 159) (w := -1) dX12_init_159 (by decide) ?_
  refine r_iast (pc := 160) (j := 0) rfl dX12_init_160 hF (fun M56 hF => ?_)
  refine r_dup (pc := 161) dX12_init_161 rfl ?_
  refine r_bipush (pc := 162) (w := 6) dX12_init_162 (by decide) ?_
  refine r_iconst (pc := 164) (w := -1) dX12_init_164 (by decide) ?_
  refine r_iast (pc := 165) (j := 0) rfl dX12_init_165 hF (fun M57 hF => ?_)
  refine r_dup (pc := 166) dX12_init_166 rfl ?_
  refine r_bipush (pc := 167) (w := 7) dX12_init_167 (by decide) ?_
  refine r_iconst (pc := 169) (w := -1) dX12_init_169 (by decide) ?_
  refine r_iast (pc := 170) (j := 0) rfl dX12_init_170 hF (fun M58 hF => ?_)
  refine r_dup (pc := 171) dX12_init_171 rfl ?_
  refine r_bipush (pc := 172) (w := 8) dX12_init_172 (by decide) ?_
  refine r_iconst (pc := 174) (w := -1) dX12_init_174 (by decide) ?_
  refine r_iast (pc := 175) (j := 0) rfl dX12_init_175 hF (fun M59 hF => ?_)
  refine r_dup (pc := 176) dX12_init_176 rfl ?_
  refine r_bipush (pc := 177) (w := 9) dX12_init_177 (by decide) ?_
  refine r_iconst (pc := 179) (w := -1) dX12_init_179 (by decide) ?_
  refine r_iast (pc := 180) (j := 0) rfl dX12_init_180 hF (fun M60 hF => ?_)
  refine r_dup (pc := 181) dX12_init_181 rfl ?_
  refine r_bipush (pc := 182) (w := 10) dX12_init_182 (by decide) ?_
  refine r_iconst (pc := 184) (w := -1) dX12_init_184 (by decide) ?_
  refine r_iast (pc := 185) (j := 0) rfl dX12_init_185 hF (fun M61 hF => ?_)
  refine r_dup (pc := 186) dX12_init_186 rfl ?_
  refine r_bipush (pc := 187) (w := 11) dX12_init_187 (by decide) ?_
  refine r_iconst (pc := 189) (w := -1) dX12_init_189 (by decide) ?_
  refine r_iast (pc := 190) (j := 0) rfl dX12_init_190 hF (fun M62 hF => ?_)
  refine r_dup (pc := 191) dX12_init_191 rfl ?_
  refine r_bipush (pc := 192) (w := 12) dX12_init_192 (by decide) ?_
  refine r_iconst (pc := 194) (w := -1) dX12_init_194 (by decide) ?_
  refine r_iast (pc := 195) (j := 0) rfl dX12_init_195 hF (fun M63 hF => ?_)
  refine r_dup (pc := 196) dX12_init_196 rfl ?_
  refine r_bipush (pc := 197) (w := 13) dX12_init_197 (by decide) ?_
  refine r_iconst (pc := 199) (w := -1) dX12_init_199 (by decide) ?_
  refine r_iast (pc := 200) (j := 0) rfl dX12_init_200 hF (fun M64 hF => ?_)
  refine r_dup (pc := 201) dX12_init_201 rfl ?_
  refine r_bipush (pc := 202) (w := 14) dX12_init_202 (by decide) ?_
  refine r_iconst (pc := 204) (w := -1) dX12_init_204 (by decide) ?_
  refine r_iast (pc := 205) (j := 0) rfl dX12_init_205 hF (fun M65 hF => ?_)
  refine r_dup (pc := 206) dX12_init_206 rfl ?_
  refine r_bipush (pc := 207) (w := 15) dX12_init_207 (by decide) ?_
  refine r_iconst (pc := 209) (w := -1) dX12_init_209 (by decide) ?_
  refine r_iast (pc := 210) (j := 0) rfl dX12_init_210 hF (fun M66 hF => ?_)
  refine r_dup (pc := 211) dX12_init_211 rfl ?_
  refine r_bipush (pc := 212) (w := 16) dX12_init_212 (by decide) ?_
  refine r_iconst (pc := 214) (w := -1) dX12_init_214 (by decide) ?_
  refine r_iast (pc := 215) (j := 0) rfl dX12_init_215 hF (fun M67 hF => ?_)
  refine r_dup (pc := 216) dX12_init_216 rfl ?_
  refine r_bipush (pc := 217) (w := 17) dX12_init_217 (by decide) ?_
  refine r_iconst (pc := 219) (w := -1) dX12_init_219 (by decide) ?_
  refine r_iast (pc := 220) (j := 0) rfl dX12_init_220 hF (fun M68 hF => ?_)
  refine r_dup (pc := 221) dX12_init_221 rfl ?_
  refine r_bipush (pc := 222) (w := 18) dX12_init_222 (by decide) ?_
  refine r_iconst (pc := 224) (w := -1) dX12_init_224 (by decide) ?_
  refine r_iast (pc := 225) (j := 0) rfl dX12_init_225 hF (fun M69 hF => ?_)
  refine r_dup (pc := 226) dX12_init_226 rfl ?_
  refine r_bipush (pc := 227) (w := 19) dX12_init_227 (by decide) ?_
  refine r_iconst (pc := 229) (w := -1) dX12_init_229 (by decide) ?_
  refine r_iast (pc := 230) (j := 0) rfl dX12_init_230 hF (fun M70 hF => ?_)
  refine pf_X12_60 (pc := 231) hzi (w := (some b49)) (j := 17) rfl dX12_init_231 hF (fun M71 hF => ?_)
  refine r_aload_n (pc := 234) 0 dX12_init_234 rfl rfl ?_
  refine r_bipush (pc := 235) (w := 12) dX12_init_235 (by decide) ?_
  refine r_newI (pc := 237) tw_149 dX12_init_237 hF (fun b72 M73 hF => ?_)
  refine pf_X12_63 (pc := 239) hzi (w := (some b72)) (j := 18) rfl dX12_init_239 hF (fun M74 hF => ?_)
  refine r_aload_n (pc := 242) 0 dX12_init_242 rfl rfl ?_
  refine r_bipush (pc := 243) (w := 8) dX12_init_243 (by decide) ?_
  refine r_newI (pc := 245) tw_149 dX12_init_245 hF (fun b75 M76 hF => ?_)
  refine pf_X12_66 (pc := 247) hzi (w := (some b75)) (j := 19) rfl dX12_init_247 hF (fun M77 hF => ?_)
  refine r_aload_n (pc := 250) 0 dX12_init_250 rfl rfl ?_
  refine r_bipush (pc := 251) (w := 8) dX12_init_251 (by decide) ?_
  refine r_newI (pc := 253) tw_149 dX12_init_253 hF (fun b78 M79 hF => ?_)
  refine pf_X12_69 (pc := 255) hzi (w := (some b78)) (j := 20) rfl dX12_init_255 hF (fun M80 hF => ?_)
  refine r_aload_n (pc := 258) 0 dX12_init_258 rfl rfl ?_
  refine r_bipush (pc := 259) (w := 24) dX12_init_259 (by decide) ?_
  refine r_newI (pc := 261) tw_149 dX12_init_261 hF (fun b81 M82 hF => ?_)
  refine r_dup (pc := 263) dX12_init_263 rfl ?_
  refine r_iconst (pc := 264) (w := 0) dX12_init_264 (by decide) ?_
  refine r_bipush (pc := 265) (w := 10) dX12_init_265 (by decide) ?_
  refine r_iast (pc := 267) (j := 0) rfl dX12_init_267 hF (fun M83 hF => ?_)
  refine r_dup (pc := 268) dX12_init_268 rfl ?_
  refine r_iconst (pc := 269) (w := 1) dX12_init_269 (by decide) ?_
  refine r_bipush (pc := 270) (w := 10) dX12_init_270 (by decide) ?_
  refine r_iast (pc := 272) (j := 0) rfl dX12_init_272 hF (fun M84 hF => ?_)
  refine r_dup (pc := 273) dX12_init_273 rfl ?_
  refine r_iconst (pc := 274) (w := 2) dX12_init_274 (by decide) ?_
  refine r_bipush (pc := 275) (w := 10) dX12_init_275 (by decide) ?_
  refine r_iast (pc := 277) (j := 0) rfl dX12_init_277 hF (fun M85 hF => ?_)
  refine r_dup (pc := 278) dX12_init_278 rfl ?_
  refine r_iconst (pc := 279) (w := 3) dX12_init_279 (by decide) ?_
  refine r_bipush (pc := 280) (w := 10) dX12_init_280 (by decide) ?_
  refine r_iast (pc := 282) (j := 0) rfl dX12_init_282 hF (fun M86 hF => ?_)
  refine r_dup (pc := 283) dX12_init_283 rfl ?_
  refine r_iconst (pc := 284) (w := 4) dX12_init_284 (by decide) ?_
  refine r_bipush (pc := 285) (w := 10) dX12_init_285 (by decide) ?_
  refine r_iast (pc := 287) (j := 0) rfl dX12_init_287 hF (fun M87 hF => ?_)
  refine r_dup (pc := 288) dX12_init_288 rfl ?_
  refine r_iconst (pc := 289) (w := 5) dX12_init_289 (by decide) ?_
  refine r_bipush (pc := 290) (w := 10) dX12_init_290 (by decide) ?_
  refine r_iast (pc := 292) (j := 0) rfl dX12_init_292 hF (fun M88 hF => ?_)
  refine r_dup (pc := 293) dX12_init_293 rfl ?_
  refine r_bipush (pc := 294) (w := 6) dX12_init_294 (by decide) ?_
  refine r_bipush (pc := 296) (w := 10) dX12_init_296 (by decide) ?_
  refine r_iast (pc := 298) (j := 0) rfl dX12_init_298 hF (fun M89 hF => ?_)
  refine r_dup (pc := 299) dX12_init_299 rfl ?_
  refine r_bipush (pc := 300) (w := 7) dX12_init_300 (by decide) ?_
  refine r_bipush (pc := 302) (w := 10) dX12_init_302 (by decide) ?_
  refine r_iast (pc := 304) (j := 0) rfl dX12_init_304 hF (fun M90 hF => ?_)
  refine r_dup (pc := 305) dX12_init_305 rfl ?_
  refine r_bipush (pc := 306) (w := 8) dX12_init_306 (by decide) ?_
  refine r_bipush (pc := 308) (w := 10) dX12_init_308 (by decide) ?_
  refine r_iast (pc := 310) (j := 0) rfl dX12_init_310 hF (fun M91 hF => ?_)
  refine r_dup (pc := 311) dX12_init_311 rfl ?_
  refine r_bipush (pc := 312) (w := 9) dX12_init_312 (by decide) ?_
  refine r_bipush (pc := 314) (w := 10) dX12_init_314 (by decide) ?_
  refine r_iast (pc := 316) (j := 0) rfl dX12_init_316 hF (fun M92 hF => ?_)
  refine r_dup (pc := 317) dX12_init_317 rfl ?_
  refine r_bipush (pc := 318) (w := 10) dX12_init_318 (by decide) ?_
  refine r_bipush (pc := 320) (w := 10) dX12_init_320 (by decide) ?_
  refine r_iast (pc := 322) (j := 0) rfl dX12_init_322 hF (fun M93 hF => ?_)
  refine r_dup (pc := 323) dX12_init_323 rfl ?_
  refine r_bipush (pc := 324) (w := 11) dX12_init_324 (by decide) ?_
  refine r_bipush (pc := 326) (w := 10) dX12_init_326 (by decide) ?_
  refine r_iast (pc := 328) (j := 0) rfl dX12_init_328 hF (fun M94 hF => ?_)
  refine r_dup (pc := 329) dX12_init_329 rfl ?_
  refine r_bipush (pc := 330) (w := 12) dX12_init_330 (by decide) ?_
  refine r_bipush (pc := 332) (w := 10) dX12_init_332 (by decide) ?_
  refine r_iast (pc := 334) (j := 0) rfl dX12_init_334 hF (fun M95 hF => ?_)
  refine r_dup (pc := 335) dX12_init_335 rfl ?_
  refine r_bipush (pc := 336) (w := 13) dX12_init_336 (by decide) ?_
  refine r_bipush (pc := 338) (w := 10) dX12_init_338 (by decide) ?_
  refine r_iast (pc := 340) (j := 0) rfl dX12_init_340 hF (fun M96 hF => ?_)
  refine r_dup (pc := 341) dX12_init_341 rfl ?_
  refine r_bipush (pc := 342) (w := 14) dX12_init_342 (by decide) ?_
  refine r_bipush (pc := 344) (w := 10) dX12_init_344 (by decide) ?_
  refine r_iast (pc := 346) (j := 0) rfl dX12_init_346 hF (fun M97 hF => ?_)
  refine r_dup (pc := 347) dX12_init_347 rfl ?_
  refine r_bipush (pc := 348) (w := 15) dX12_init_348 (by decide) ?_
  refine r_bipush (pc := 350) (w := 10) dX12_init_350 (by decide) ?_
  refine r_iast (pc := 352) (j := 0) rfl dX12_init_352 hF (fun M98 hF => ?_)
  refine r_dup (pc := 353) dX12_init_353 rfl ?_
  refine r_bipush (pc := 354) (w := 16) dX12_init_354 (by decide) ?_
  refine r_bipush (pc := 356) (w := 10) dX12_init_356 (by decide) ?_
  refine r_iast (pc := 358) (j := 0) rfl dX12_init_358 hF (fun M99 hF => ?_)
  refine r_dup (pc := 359) dX12_init_359 rfl ?_
  refine r_bipush (pc := 360) (w := 17) dX12_init_360 (by decide) ?_
  refine r_bipush (pc := 362) (w := 10) dX12_init_362 (by decide) ?_
  refine r_iast (pc := 364) (j := 0) rfl dX12_init_364 hF (fun M100 hF => ?_)
  refine r_dup (pc := 365) dX12_init_365 rfl ?_
  refine r_bipush (pc := 366) (w := 18) dX12_init_366 (by decide) ?_
  refine r_bipush (pc := 368) (w := 10) dX12_init_368 (by decide) ?_
  refine r_iast (pc := 370) (j := 0) rfl dX12_init_370 hF (fun M101 hF => ?_)
  refine r_dup (pc := 371) dX12_init_371 rfl ?_
  refine r_bipush (pc := 372) (w := 19) dX12_init_372 (by decide) ?_
  refine r_bipush (pc := 374) (w := 10) dX12_init_374 (by decide) ?_
  refine r_iast (pc := 376) (j := 0) rfl dX12_init_376 hF (fun M102 hF => ?_)
  refine r_dup (pc := 377) dX12_init_377 rfl ?_
  refine r_bipush (pc := 378) (w := 20) dX12_init_378 (by decide) ?_
  refine r_bipush (pc := 380) (w := 10) dX12_init_380 (by decide) ?_
  refine r_iast (pc := 382) (j := 0) rfl dX12_init_382 hF (fun M103 hF => ?_)
  refine r_dup (pc := 383) dX12_init_383 rfl ?_
  refine r_bipush (pc := 384) (w := 21) dX12_init_384 (by decide) ?_
  refine r_bipush (pc := 386) (w := 10) dX12_init_386 (by decide) ?_
  refine r_iast (pc := 388) (j := 0) rfl dX12_init_388 hF (fun M104 hF => ?_)
  refine r_dup (pc := 389) dX12_init_389 rfl ?_
  refine r_bipush (pc := 390) (w := 22) dX12_init_390 (by decide) ?_
  refine r_bipush (pc := 392) (w := 10) dX12_init_392 (by decide) ?_
  refine r_iast (pc := 394) (j := 0) rfl dX12_init_394 hF (fun M105 hF => ?_)
  refine r_dup (pc := 395) dX12_init_395 rfl ?_
  refine r_bipush (pc := 396) (w := 23) dX12_init_396 (by decide) ?_
  refine r_bipush (pc := 398) (w := 10) dX12_init_398 (by decide) ?_
  refine r_iast (pc := 400) (j := 0) rfl dX12_init_400 hF (fun M106 hF => ?_)
  refine pf_X12_72 (pc := 401) hzi (w := (some b81)) (j := 21) rfl dX12_init_401 hF (fun M107 hF => ?_)
  refine r_aload_n (pc := 404) 0 dX12_init_404 rfl rfl ?_
  refine r_bipush (pc := 405) (w := 24) dX12_init_405 (by decide) ?_
  refine r_newI (pc := 407) tw_149 dX12_init_407 hF (fun b108 M109 hF => ?_)
  refine pf_X12_75 (pc := 409) hzi (w := (some b108)) (j := 22) rfl dX12_init_409 hF (fun M110 hF => ?_)
  refine r_aload_n (pc := 412) 0 dX12_init_412 rfl rfl ?_
  refine r_bipush (pc := 413) (w := 60) dX12_init_413 (by decide) ?_
  refine r_newI (pc := 415) tw_149 dX12_init_415 hF (fun b111 M112 hF => ?_)
  refine pf_X12_78 (pc := 417) hzi (w := (some b111)) (j := 23) rfl dX12_init_417 hF (fun M113 hF => ?_)
  refine r_aload_n (pc := 420) 0 dX12_init_420 rfl rfl ?_
  refine r_bipush (pc := 421) (w := 30) dX12_init_421 (by decide) ?_
  refine r_newI (pc := 423) tw_149 dX12_init_423 hF (fun b114 M115 hF => ?_)
  refine pf_X12_81 (pc := 425) hzi (w := (some b114)) (j := 24) rfl dX12_init_425 hF (fun M116 hF => ?_)
  refine r_aload_n (pc := 428) 0 dX12_init_428 rfl rfl ?_
  refine r_bipush (pc := 429) (w := 30) dX12_init_429 (by decide) ?_
  refine r_newI (pc := 431) tw_149 dX12_init_431 hF (fun b117 M118 hF => ?_)
  refine pf_X12_84 (pc := 433) hzi (w := (some b117)) (j := 25) rfl dX12_init_433 hF (fun M119 hF => ?_)
  refine r_aload_n (pc := 436) 0 dX12_init_436 rfl rfl ?_
  refine r_bipush (pc := 437) (w := 30) dX12_init_437 (by decide) ?_
  refine r_newI (pc := 439) tw_149 dX12_init_439 hF (fun b120 M121 hF => ?_)
  refine pf_X12_87 (pc := 441) hzi (w := (some b120)) (j := 26) rfl dX12_init_441 hF (fun M122 hF => ?_)
  refine r_aload_n (pc := 444) 0 dX12_init_444 rfl rfl ?_
  refine r_sipush (pc := 445) (w := 1860) dX12_init_445 (by decide) ?_
  refine r_newI (pc := 448) tw_149 dX12_init_448 hF (fun b123 M124 hF => ?_)
  refine pf_X12_90 (pc := 450) hzi (w := (some b123)) (j := 27) rfl dX12_init_450 hF (fun M125 hF => ?_)
  refine r_aload_n (pc := 453) 0 dX12_init_453 rfl rfl ?_
  refine r_bipush (pc := 454) (w := 100) dX12_init_454 (by decide) ?_
  refine pf_X12_93 (pc := 456) (j := 27) rfl dX12_init_456 hF (fun M126 hF => ?_)
  refine r_aload_n (pc := 459) 0 dX12_init_459 rfl rfl ?_
  refine r_bipush (pc := 460) (w := 20) dX12_init_460 (by decide) ?_
  refine r_newI (pc := 462) tw_149 dX12_init_462 hF (fun b127 M128 hF => ?_)
  refine pf_X12_97 (pc := 464) hzi (w := (some b127)) (j := 28) rfl dX12_init_464 hF (fun M129 hF => ?_)
  refine r_aload_n (pc := 467) 0 dX12_init_467 rfl rfl ?_
  refine r_bipush (pc := 468) (w := 20) dX12_init_468 (by decide) ?_
  refine r_newI (pc := 470) tw_149 dX12_init_470 hF (fun b130 M131 hF => ?_)
  refine pf_X12_100 (pc := 472) hzi (w := (some b130)) (j := 29) rfl dX12_init_472 hF (fun M132 hF => ?_)
  refine r_aload_n (pc := 475) 0 dX12_init_475 rfl rfl ?_
  refine r_bipush (pc := 476) (w := 20) dX12_init_476 (by decide) ?_
  refine r_newJ (pc := 478) tw_186 dX12_init_478 hF (fun b133 M134 hF => ?_)
  refine pf_X12_103 (pc := 480) hzi (w := (some b133)) (j := 30) rfl dX12_init_480 hF (fun M135 hF => ?_)
  refine r_aload_n (pc := 483) 0 dX12_init_483 rfl rfl ?_
  refine r_bipush (pc := 484) (w := 9) dX12_init_484 (by decide) ?_
  refine r_newI (pc := 486) tw_149 dX12_init_486 hF (fun b136 M137 hF => ?_)
  refine r_dup (pc := 488) dX12_init_488 rfl ?_
  refine r_iconst (pc := 489) (w := 0) dX12_init_489 (by decide) ?_
  refine r_bipush (pc := 490) (w := 104) dX12_init_490 (by decide) ?_
  refine r_iast (pc := 492) (j := 0) rfl dX12_init_492 hF (fun M138 hF => ?_)
  refine r_dup (pc := 493) dX12_init_493 rfl ?_
  refine r_iconst (pc := 494) (w := 1) dX12_init_494 (by decide) ?_
  refine r_bipush (pc := 495) (w := 100) dX12_init_495 (by decide) ?_
  refine r_iast (pc := 497) (j := 0) rfl dX12_init_497 hF (fun M139 hF => ?_)
  refine r_dup (pc := 498) dX12_init_498 rfl ?_
  refine r_iconst (pc := 499) (w := 2) dX12_init_499 (by decide) ?_
  refine r_bipush (pc := 500) (w := 112) dX12_init_500 (by decide) ?_
  refine r_iast (pc := 502) (j := 0) rfl dX12_init_502 hF (fun M140 hF => ?_)
  refine r_dup (pc := 503) dX12_init_503 rfl ?_
  refine r_iconst (pc := 504) (w := 3) dX12_init_504 (by decide) ?_
  refine r_bipush (pc := 505) (w := 99) dX12_init_505 (by decide) ?_
  refine r_iast (pc := 507) (j := 0) rfl dX12_init_507 hF (fun M141 hF => ?_)
  refine r_dup (pc := 508) dX12_init_508 rfl ?_
  refine r_iconst (pc := 509) (w := 4) dX12_init_509 (by decide) ?_
  refine r_bipush (pc := 510) (w := 110) dX12_init_510 (by decide) ?_
  refine r_iast (pc := 512) (j := 0) rfl dX12_init_512 hF (fun M142 hF => ?_)
  refine r_dup (pc := 513) dX12_init_513 rfl ?_
  refine r_iconst (pc := 514) (w := 5) dX12_init_514 (by decide) ?_
  refine r_bipush (pc := 515) (w := 116) dX12_init_515 (by decide) ?_
  refine r_iast (pc := 517) (j := 0) rfl dX12_init_517 hF (fun M143 hF => ?_)
  refine r_dup (pc := 518) dX12_init_518 rfl ?_
  refine r_bipush (pc := 519) (w := 6) dX12_init_519 (by decide) ?_
  refine r_bipush (pc := 521) (w := 114) dX12_init_521 (by decide) ?_
  refine r_iast (pc := 523) (j := 0) rfl dX12_init_523 hF (fun M144 hF => ?_)
  refine r_dup (pc := 524) dX12_init_524 rfl ?_
  refine r_bipush (pc := 525) (w := 7) dX12_init_525 (by decide) ?_
  refine r_bipush (pc := 527) (w := 98) dX12_init_527 (by decide) ?_
  refine r_iast (pc := 529) (j := 0) rfl dX12_init_529 hF (fun M145 hF => ?_)
  refine r_dup (pc := 530) dX12_init_530 rfl ?_
  refine r_bipush (pc := 531) (w := 8) dX12_init_531 (by decide) ?_
  refine r_bipush (pc := 533) (w := 102) dX12_init_533 (by decide) ?_
  refine r_iast (pc := 535) (j := 0) rfl dX12_init_535 hF (fun M146 hF => ?_)
  refine pf_X12_106 (pc := 536) hzi (w := (some b136)) (j := 31) rfl dX12_init_536 hF (fun M147 hF => ?_)
  refine r_aload_n (pc := 539) 0 dX12_init_539 rfl rfl ?_
  refine r_bipush (pc := 540) (w := 9) dX12_init_540 (by decide) ?_
  refine r_newJ (pc := 542) tw_186 dX12_init_542 hF (fun b148 M149 hF => ?_)
  refine pf_X12_109 (pc := 544) hzi (w := (some b148)) (j := 32) rfl dX12_init_544 hF (fun M150 hF => ?_)
  refine r_aload_n (pc := 547) 0 dX12_init_547 rfl rfl ?_
  refine r_bipush (pc := 548) (w := 62) dX12_init_548 (by decide) ?_
  refine r_newJ (pc := 550) tw_186 dX12_init_550 hF (fun b151 M152 hF => ?_)
  refine pf_X12_112 (pc := 552) hzi (w := (some b151)) (j := 33) rfl dX12_init_552 hF (fun M153 hF => ?_)
  refine r_aload_n (pc := 555) 0 dX12_init_555 rfl rfl ?_
  refine r_bipush (pc := 556) (w := 64) dX12_init_556 (by decide) ?_
  refine r_newJ (pc := 558) tw_186 dX12_init_558 hF (fun b154 M155 hF => ?_)
  refine pf_X12_115 (pc := 560) hzi (w := (some b154)) (j := 34) rfl dX12_init_560 hF (fun M156 hF => ?_)
  refine r_aload_n (pc := 563) 0 dX12_init_563 rfl rfl ?_
  refine r_bipush (pc := 564) (w := 64) dX12_init_564 (by decide) ?_
  refine r_newJ (pc := 566) tw_186 dX12_init_566 hF (fun b157 M158 hF => ?_)
  refine pf_X12_118 (pc := 568) hzi (w := (some b157)) (j := 35) rfl dX12_init_568 hF (fun M159 hF => ?_)
  refine r_aload_n (pc := 571) 0 dX12_init_571 rfl rfl ?_
  refine r_bipush (pc := 572) (w := 8) dX12_init_572 (by decide) ?_
  refine r_newJ (pc := 574) tw_186 dX12_init_574 hF (fun b160 M161 hF => ?_)
  refine pf_X12_121 (pc := 576) hzi (w := (some b160)) (j := 36) rfl dX12_init_576 hF (fun M162 hF => ?_)
  refine r_aload_n (pc := 579) 0 dX12_init_579 rfl rfl ?_
  refine r_bipush (pc := 580) (w := 8) dX12_init_580 (by decide) ?_
  refine r_newJ (pc := 582) tw_186 dX12_init_582 hF (fun b163 M164 hF => ?_)
  refine pf_X12_124 (pc := 584) hzi (w := (some b163)) (j := 37) rfl dX12_init_584 hF (fun M165 hF => ?_)
  refine r_aload_n (pc := 587) 0 dX12_init_587 rfl rfl ?_
  refine r_bipush (pc := 588) (w := 8) dX12_init_588 (by decide) ?_
  refine r_newJ (pc := 590) tw_186 dX12_init_590 hF (fun b166 M167 hF => ?_)
  refine pf_X12_127 (pc := 592) hzi (w := (some b166)) (j := 38) rfl dX12_init_592 hF (fun M168 hF => ?_)
  refine r_aload_n (pc := 595) 0 dX12_init_595 rfl rfl ?_
  refine r_bipush (pc := 596) (w := 64) dX12_init_596 (by decide) ?_
  refine r_newJ (pc := 598) tw_186 dX12_init_598 hF (fun b169 M170 hF => ?_)
  refine pf_X12_130 (pc := 600) hzi (w := (some b169)) (j := 39) rfl dX12_init_600 hF (fun M171 hF => ?_)
  refine r_aload_n (pc := 603) 0 dX12_init_603 rfl rfl ?_
  refine r_bipush (pc := 604) (w := 8) dX12_init_604 (by decide) ?_
  refine r_newJ (pc := 606) tw_186 dX12_init_606 hF (fun b172 M173 hF => ?_)
  refine pf_X12_133 (pc := 608) hzi (w := (some b172)) (j := 40) rfl dX12_init_608 hF (fun M174 hF => ?_)
  refine r_aload_n (pc := 611) 0 dX12_init_611 rfl rfl ?_
  refine r_bipush (pc := 612) (w := 9) dX12_init_612 (by decide) ?_
  refine r_newJ (pc := 614) tw_186 dX12_init_614 hF (fun b175 M176 hF => ?_)
  refine pf_X12_136 (pc := 616) hzi (w := (some b175)) (j := 41) rfl dX12_init_616 hF (fun M177 hF => ?_)
  refine r_aload_n (pc := 619) 0 dX12_init_619 rfl rfl ?_
  refine r_bipush (pc := 620) (w := 8) dX12_init_620 (by decide) ?_
  refine r_newZ (pc := 622) tw_1261 dX12_init_622 hF (fun b178 M179 hF => ?_)
  refine pf_X12_139 (pc := 624) hzi (w := (some b178)) (j := 42) rfl dX12_init_624 hF (fun M180 hF => ?_)
  refine r_aload_n (pc := 627) 0 dX12_init_627 rfl rfl ?_
  refine r_sipush (pc := 628) (w := 250) dX12_init_628 (by decide) ?_
  refine r_newJ (pc := 631) tw_186 dX12_init_631 hF (fun b181 M182 hF => ?_)
  refine pf_X12_142 (pc := 633) hzi (w := (some b181)) (j := 43) rfl dX12_init_633 hF (fun M183 hF => ?_)
  refine r_aload_n (pc := 636) 0 dX12_init_636 rfl rfl ?_
  refine r_bipush (pc := 637) (w := 24) dX12_init_637 (by decide) ?_
  refine r_newJ (pc := 639) tw_186 dX12_init_639 hF (fun b184 M185 hF => ?_)
  refine pf_X12_145 (pc := 641) hzi (w := (some b184)) (j := 44) rfl dX12_init_641 hF (fun M186 hF => ?_)
  exact r_vret (pc := 644) dX12_init_644 hF
theorem k_X12_init (G : EG) (M : Mem) (a0 : Nat) (q : Mem × Unit) (h : F_X12_init M a0 = some q) : Kt yX12_init P_X12_init M [(a0, 14)] [.ref a0] (RV G q) := Kt.of (by decide +kernel) rfl (Nat.le_of_ble_eq_true rfl) rfl (fun X hz => w_X12_init (fun x hx => hz x hx rfl) M a0 h)
set_option maxHeartbeats 4000000 in
theorem w_X12_join {X : Option Cx} {G : EG} {res : Mem × Int32} (M : Mem) (a0 : Nat) (a1 : Int32) (a2 : Int32) (hF : F_X12_join M a0 a1 a2 = some res) : T X (RI G res) P_X12_join M [(a0, 14)] [(0, .ref a0), (1, .int a1), (2, .int a2)] [] 0 := by
  unfold F_X12_join at hF
  refine r_iload_n (pc := 0) 1 dX12_join_0 rfl rfl ?_
  refine r_i2l (pc := 1) dX12_join_1 ?_
  refine r_lconst (pc := 2) (w := 0) dX12_join_2 (by decide) ?_
  refine r_aload_n (pc := 3) 0 dX12_join_3 rfl rfl ?_
  refine gf_X12_196 (pc := 4) (j := 0) rfl dX12_join_4 ?_
  refine r_iconst (pc := 7) (w := 1) dX12_join_7 (by decide) ?_
  refine r_isub (pc := 8) dX12_join_8 ?_
  refine r_i2l (pc := 9) dX12_join_9 ?_
  refine r_callS_I (pc := 10) (Py := P_X12_in) (n := 3) (As := [.long (a1.toInt64), .long ((0 : Int64)), .long (((gI M 1316 a0) - (1 : Int32)).toInt64)]) (fun q e => k_X12_in G _ (a1.toInt64) (0 : Int64) (((gI M 1316 a0) - (1 : Int32)).toInt64) q e) tw_1342 tw_1343 tw_70 tw_1344 hd_X12_in ⟨Nat.le_of_ble_eq_true rfl, Nat.le_of_ble_eq_true rfl⟩ rfl [] rfl rfl (Nat.le_of_ble_eq_true rfl) dX12_join_10 hF (fun M1 r2 hF => ?_)
  refine r_if_ne (pc := 13) (tgt := 22) dX12_join_13 rfl hF (fun hF => ?_) (fun hF => ?_)
  · refine r_aload_n (pc := 22) 0 dX12_join_22 rfl rfl ?_
    refine gf_X12_60 (pc := 23) (j := 0) rfl dX12_join_23 ?_
    refine r_lr (by decide) hF (fun b3 hF => ?_)
    refine r_iload_n (pc := 26) 1 dX12_join_26 rfl rfl ?_
    refine r_iald (pc := 27) (j := 0) rfl dX12_join_27 hF (fun hF => ?_)
    refine r_if_lt (pc := 28) (tgt := 38) dX12_join_28 rfl hF (fun hF => ?_) (fun hF => ?_)
    · refine r_iload_n (pc := 38) 2 dX12_join_38 rfl rfl ?_
      refine r_aload_n (pc := 39) 0 dX12_join_39 rfl rfl ?_
      refine gf_X12_167 (pc := 40) (j := 1) rfl dX12_join_40 ?_
      refine r_bipush (pc := 43) (w := 24) dX12_join_43 (by decide) ?_
      refine r_idivc (pc := 45) dX12_join_45 (by decide) ?_
      refine r_icmp_ge (pc := 46) (tgt := 56) dX12_join_46 rfl hF (fun hF => ?_) (fun hF => ?_)
      · refine r_iload_n (pc := 56) 2 dX12_join_56 rfl rfl ?_
        refine r_sipush (pc := 57) (w := 333) dX12_join_57 (by decide) ?_
        refine r_icmp_le (pc := 60) (tgt := 70) dX12_join_60 rfl hF (fun hF => ?_) (fun hF => ?_)
        · refine r_aload_n (pc := 70) 0 dX12_join_70 rfl rfl ?_
          refine gf_X12_60 (pc := 71) (j := 1) rfl dX12_join_71 ?_
          refine r_lr (by decide) hF (fun b4 hF => ?_)
          refine r_iload_n (pc := 74) 1 dX12_join_74 rfl rfl ?_
          refine r_iload_n (pc := 75) 2 dX12_join_75 rfl rfl ?_
          refine r_iast (pc := 76) (j := 0) rfl dX12_join_76 hF (fun M5 hF => ?_)
          refine r_iconst (pc := 77) (w := 1) dX12_join_77 (by decide) ?_
          exact r_iret (pc := 78) dX12_join_78 hF
        · refine r_aload_n (pc := 63) 0 dX12_join_63 rfl rfl ?_
          refine r_bipush (pc := 64) (w := -6) dX12_join_64 (by decide) ?_
          refine r_callV_I (pc := 66) (Py := P_X12_refuse) (n := 1) (As := [.int ((-6 : Int32))]) (fun q e => k_X12_refuse G _ a0 (-6 : Int32) q e) (c := 13) (Tb := TX12) (N := 58) rfl (by decide) (j0 := 1) rfl tw_1266 tw_1268 tw_28 tw_70 tw_1269 hd_X12_refuse ⟨Nat.le_of_ble_eq_true rfl, Nat.le_of_ble_eq_true rfl⟩ rfl [1] rfl rfl (Nat.le_of_ble_eq_true rfl) dX12_join_66 hF (fun M6 r7 hF => ?_)
          exact r_iret (pc := 69) dX12_join_69 hF
      · refine r_aload_n (pc := 49) 0 dX12_join_49 rfl rfl ?_
        refine r_bipush (pc := 50) (w := -4) dX12_join_50 (by decide) ?_
        refine r_callV_I (pc := 52) (Py := P_X12_refuse) (n := 1) (As := [.int ((-4 : Int32))]) (fun q e => k_X12_refuse G _ a0 (-4 : Int32) q e) (c := 13) (Tb := TX12) (N := 58) rfl (by decide) (j0 := 1) rfl tw_1266 tw_1268 tw_28 tw_70 tw_1269 hd_X12_refuse ⟨Nat.le_of_ble_eq_true rfl, Nat.le_of_ble_eq_true rfl⟩ rfl [1] rfl rfl (Nat.le_of_ble_eq_true rfl) dX12_join_52 hF (fun M8 r9 hF => ?_)
        exact r_iret (pc := 55) dX12_join_55 hF
    · refine r_aload_n (pc := 31) 0 dX12_join_31 rfl rfl ?_
      refine r_bipush (pc := 32) (w := -3) dX12_join_32 (by decide) ?_
      refine r_callV_I (pc := 34) (Py := P_X12_refuse) (n := 1) (As := [.int ((-3 : Int32))]) (fun q e => k_X12_refuse G _ a0 (-3 : Int32) q e) (c := 13) (Tb := TX12) (N := 58) rfl (by decide) (j0 := 1) rfl tw_1266 tw_1268 tw_28 tw_70 tw_1269 hd_X12_refuse ⟨Nat.le_of_ble_eq_true rfl, Nat.le_of_ble_eq_true rfl⟩ rfl [1] rfl rfl (Nat.le_of_ble_eq_true rfl) dX12_join_34 hF (fun M10 r11 hF => ?_)
      exact r_iret (pc := 37) dX12_join_37 hF
  · refine r_aload_n (pc := 16) 0 dX12_join_16 rfl rfl ?_
    refine r_iconst (pc := 17) (w := -1) dX12_join_17 (by decide) ?_
    refine r_callV_I (pc := 18) (Py := P_X12_refuse) (n := 1) (As := [.int ((-1 : Int32))]) (fun q e => k_X12_refuse G _ a0 (-1 : Int32) q e) (c := 13) (Tb := TX12) (N := 58) rfl (by decide) (j0 := 0) rfl tw_1266 tw_1268 tw_28 tw_70 tw_1269 hd_X12_refuse ⟨Nat.le_of_ble_eq_true rfl, Nat.le_of_ble_eq_true rfl⟩ rfl [0] rfl rfl (Nat.le_of_ble_eq_true rfl) dX12_join_18 hF (fun M12 r13 hF => ?_)
    exact r_iret (pc := 21) dX12_join_21 hF
theorem k_X12_join (G : EG) (M : Mem) (a0 : Nat) (a1 : Int32) (a2 : Int32) (q : Mem × Int32) (h : F_X12_join M a0 a1 a2 = some q) : Kt yX12_join P_X12_join M [(a0, 14)] [.ref a0, .int a1, .int a2] (RI G q) := Kt.of (by decide +kernel) rfl (Nat.le_of_ble_eq_true rfl) rfl (fun X hz => w_X12_join M a0 a1 a2 h)
set_option maxHeartbeats 4000000 in
theorem w_X12_leak_p55 {X : Option Cx} {G : EG} {res : Mem × Int64} {k21 : Mem → Nat → Int32 → Int32 → Int32 → Int32 → Option (Mem × Int64)} (hk21 : ∀ (M : Mem) (x0 : Nat) (x1 : Int32) (x2 : Int32) (x3 : Int32) (x4 : Int32), k21 M x0 x1 x2 x3 x4 = some res → T X (RJ G res) P_X12_leak M [(x0, 14)] [(0, .ref x0), (1, .int x1), (2, .int x2), (3, .int x3), (4, .int x4)] [] 21) : ∀ (M : Mem) (x0 : Nat) (x1 : Int32) (x2 : Int32) (x3 : Int32) (x4 : Int32), F_X12_leak_p55 k21 M x0 x1 x2 x3 x4 = some res → T X (RJ G res) P_X12_leak M [(x0, 14)] [(0, .ref x0), (1, .int x1), (2, .int x2), (3, .int x3), (4, .int x4)] [] 55 := by
  intro M x0 x1 x2 x3 x4 hF
  unfold F_X12_leak_p55 at hF
  obtain ⟨v1, e9, hF⟩ := bnd_e hF
  refine r_iinc (pc := 55) (w := v1) (k := 4) (L1 := [(4, .int v1), (0, .ref x0), (1, .int x1), (2, .int x2), (3, .int x3)]) dX12_leak_55 rfl (by rw [e9]; rfl) (by decide) rfl ?_
  clear e9
  refine r_goto (pc := 58) (tgt := 21) dX12_leak_58 rfl ?_
  exact T.sub (hk21 M x0 x1 x2 x3 v1 hF) [0] [1, 2, 3, 4, 0] rfl rfl
set_option maxHeartbeats 4000000 in
theorem w_X12_leak_p51 {X : Option Cx} {G : EG} {res : Mem × Int64} {k21 : Mem → Nat → Int32 → Int32 → Int32 → Int32 → Option (Mem × Int64)} (hk21 : ∀ (M : Mem) (x0 : Nat) (x1 : Int32) (x2 : Int32) (x3 : Int32) (x4 : Int32), k21 M x0 x1 x2 x3 x4 = some res → T X (RJ G res) P_X12_leak M [(x0, 14)] [(0, .ref x0), (1, .int x1), (2, .int x2), (3, .int x3), (4, .int x4)] [] 21) : ∀ (M : Mem) (x0 : Nat) (x1 : Int32) (x4 : Int32) (y0 : Int32), F_X12_leak_p51 k21 M x0 x1 x4 y0 = some res → T X (RJ G res) P_X12_leak M [(x0, 14)] [(0, .ref x0), (1, .int x1), (4, .int x4)] [.int y0] 51 := by
  intro M x0 x1 x4 y0 hF
  unfold F_X12_leak_p51 at hF
  refine r_istore_n (pc := 51) (L1 := [(2, .int y0), (0, .ref x0), (1, .int x1), (4, .int x4)]) dX12_leak_51 rfl (by decide) rfl ?_
  refine r_iload (pc := 52) 3 dX12_leak_52 rfl ?_
  refine r_istore_n (pc := 54) (L1 := [(3, .int x4), (2, .int y0), (0, .ref x0), (1, .int x1), (4, .int x4)]) dX12_leak_54 rfl (by decide) rfl ?_
  exact T.sub ((w_X12_leak_p55 hk21) M x0 x1 y0 x4 x4 hF) [0] [2, 3, 1, 0, 4] rfl rfl
set_option maxHeartbeats 4000000 in
theorem w_X12_leak_p21 {X : Option Cx} {G : EG} {res : Mem × Int64} {k61 : Mem → Nat → Int32 → Int32 → Int32 → Option (Mem × Int64)} (hk61 : ∀ (M : Mem) (x0 : Nat) (x1 : Int32) (x2 : Int32) (x3 : Int32), k61 M x0 x1 x2 x3 = some res → T X (RJ G res) P_X12_leak M [(x0, 14)] [(0, .ref x0), (1, .int x1), (2, .int x2), (3, .int x3)] [] 61) : ∀ (n : Nat) (M : Mem) (x0 : Nat) (x1 : Int32) (x2 : Int32) (x3 : Int32) (x4 : Int32), F_X12_leak_p21 k61 n M x0 x1 x2 x3 x4 = some res → T X (RJ G res) P_X12_leak M [(x0, 14)] [(0, .ref x0), (1, .int x1), (2, .int x2), (3, .int x3), (4, .int x4)] [] 21 := by
  intro n
  induction n with
  | zero =>
    intro M x0 x1 x2 x3 x4 hF
    cases hF
  | succ n ih =>
    intro M x0 x1 x2 x3 x4 hF
    unfold F_X12_leak_p21 at hF
    refine r_iload (pc := 21) 4 dX12_leak_21 rfl ?_
    refine r_aload_n (pc := 23) 0 dX12_leak_23 rfl rfl ?_
    refine gf_X12_342 (pc := 24) (j := 0) rfl dX12_leak_24 ?_
    refine r_icmp_ge (pc := 27) (tgt := 61) dX12_leak_27 rfl hF (fun hF => ?_) (fun hF => ?_)
    · exact T.sub (hk61 M x0 x1 x2 x3 hF) [0] [0, 1, 2, 3] rfl rfl
    · refine r_aload_n (pc := 30) 0 dX12_leak_30 rfl rfl ?_
      refine gf_X12_97 (pc := 31) (j := 0) rfl dX12_leak_31 ?_
      refine r_lr (by decide) hF (fun b1 hF => ?_)
      refine r_iload (pc := 34) 4 dX12_leak_34 rfl ?_
      refine r_iald (pc := 36) (j := 0) rfl dX12_leak_36 hF (fun hF => ?_)
      refine r_iload_n (pc := 37) 1 dX12_leak_37 rfl rfl ?_
      refine r_icmp_ne (pc := 38) (tgt := 55) dX12_leak_38 rfl hF (fun hF => ?_) (fun hF => ?_)
      · exact T.sub ((w_X12_leak_p55 ih) M x0 x1 x2 x3 x4 hF) [1] [0, 1, 2, 3, 4] rfl rfl
      · refine r_iload_n (pc := 41) 2 dX12_leak_41 rfl rfl ?_
        refine r_if_ge (pc := 42) (tgt := 50) dX12_leak_42 rfl hF (fun hF => ?_) (fun hF => ?_)
        · refine r_iload_n (pc := 50) 2 dX12_leak_50 rfl rfl ?_
          exact T.sub ((w_X12_leak_p51 ih) M x0 x1 x4 x2 hF) [1] [0, 1, 4] rfl rfl
        · refine r_iload (pc := 45) 4 dX12_leak_45 rfl ?_
          refine r_goto (pc := 47) (tgt := 51) dX12_leak_47 rfl ?_
          exact T.sub ((w_X12_leak_p51 ih) M x0 x1 x4 x4 hF) [1] [0, 1, 4] rfl rfl
set_option maxHeartbeats 4000000 in
theorem w_X12_leak_p80 {X : Option Cx} {G : EG} {res : Mem × Int64} : ∀ (M : Mem) (x0 : Nat), F_X12_leak_p80 M x0 = some res → T X (RJ G res) P_X12_leak M [(x0, 14)] [(0, .ref x0)] [] 80 := by
  intro M x0 hF
  unfold F_X12_leak_p80 at hF
  refine r_aload_n (pc := 80) 0 dX12_leak_80 rfl rfl ?_
  refine r_bipush (pc := 81) (w := -3) dX12_leak_81 (by decide) ?_
  refine r_callV_J (pc := 83) (Py := P_X12_refuseLong) (n := 1) (As := [.int ((-3 : Int32))]) (fun q e => k_X12_refuseLong G _ x0 (-3 : Int32) q e) (c := 13) (Tb := TX12) (N := 58) rfl (by decide) (j0 := 0) rfl tw_1361 tw_1363 tw_43 tw_70 tw_1364 hd_X12_refuseLong ⟨Nat.le_of_ble_eq_true rfl, Nat.le_of_ble_eq_true rfl⟩ rfl [0] rfl rfl (Nat.le_of_ble_eq_true rfl) dX12_leak_83 hF (fun M1 r2 hF => ?_)
  exact r_lret (pc := 86) dX12_leak_86 hF
set_option maxHeartbeats 4000000 in
theorem w_X12_leak_p61 {X : Option Cx} {G : EG} {res : Mem × Int64} : ∀ (M : Mem) (x0 : Nat) (x1 : Int32) (x2 : Int32) (x3 : Int32), F_X12_leak_p61 M x0 x1 x2 x3 = some res → T X (RJ G res) P_X12_leak M [(x0, 14)] [(0, .ref x0), (1, .int x1), (2, .int x2), (3, .int x3)] [] 61 := by
  intro M x0 x1 x2 x3 hF
  unfold F_X12_leak_p61 at hF
  refine r_iload_n (pc := 61) 2 dX12_leak_61 rfl rfl ?_
  refine r_if_lt (pc := 62) (tgt := 80) dX12_leak_62 rfl hF (fun hF => ?_) (fun hF => ?_)
  · exact T.sub ((w_X12_leak_p80) M x0 hF) [0] [0] rfl rfl
  · refine r_aload_n (pc := 65) 0 dX12_leak_65 rfl rfl ?_
    refine gf_X12_100 (pc := 66) (j := 0) rfl dX12_leak_66 ?_
    refine r_lr (by decide) hF (fun b1 hF => ?_)
    refine r_iload_n (pc := 69) 2 dX12_leak_69 rfl rfl ?_
    refine r_iald (pc := 70) (j := 0) rfl dX12_leak_70 hF (fun hF => ?_)
    refine r_aload_n (pc := 71) 0 dX12_leak_71 rfl rfl ?_
    refine gf_X12_100 (pc := 72) (j := 1) rfl dX12_leak_72 ?_
    refine r_lr (by decide) hF (fun b2 hF => ?_)
    refine r_iload_n (pc := 75) 3 dX12_leak_75 rfl rfl ?_
    refine r_iald (pc := 76) (j := 0) rfl dX12_leak_76 hF (fun hF => ?_)
    refine r_icmp_ne (pc := 77) (tgt := 87) dX12_leak_77 rfl hF (fun hF => ?_) (fun hF => ?_)
    · refine r_aload_n (pc := 87) 0 dX12_leak_87 rfl rfl ?_
      refine gf_X12_103 (pc := 88) (j := 2) rfl dX12_leak_88 ?_
      refine r_lr (by decide) hF (fun b3 hF => ?_)
      refine r_iload_n (pc := 91) 2 dX12_leak_91 rfl rfl ?_
      refine r_lald (pc := 92) (j := 0) rfl dX12_leak_92 hF (fun hF => ?_)
      refine r_aload_n (pc := 93) 0 dX12_leak_93 rfl rfl ?_
      refine gf_X12_103 (pc := 94) (j := 3) rfl dX12_leak_94 ?_
      refine r_lr (by decide) hF (fun b4 hF => ?_)
      refine r_iload_n (pc := 97) 3 dX12_leak_97 rfl rfl ?_
      refine r_lald (pc := 98) (j := 0) rfl dX12_leak_98 hF (fun hF => ?_)
      refine r_lsub (pc := 99) dX12_leak_99 ?_
      refine r_aload_n (pc := 100) 0 dX12_leak_100 rfl rfl ?_
      refine gf_X12_22 (pc := 101) (j := 4) rfl dX12_leak_101 ?_
      refine r_lr (by decide) hF (fun b5 hF => ?_)
      refine r_iload_n (pc := 104) 1 dX12_leak_104 rfl rfl ?_
      refine r_iald (pc := 105) (j := 0) rfl dX12_leak_105 hF (fun hF => ?_)
      refine r_i2l (pc := 106) dX12_leak_106 ?_
      refine r_lmul (pc := 107) dX12_leak_107 ?_
      refine r_aload_n (pc := 108) 0 dX12_leak_108 rfl rfl ?_
      refine gf_X12_100 (pc := 109) (j := 5) rfl dX12_leak_109 ?_
      refine r_lr (by decide) hF (fun b6 hF => ?_)
      refine r_iload_n (pc := 112) 3 dX12_leak_112 rfl rfl ?_
      refine r_iald (pc := 113) (j := 0) rfl dX12_leak_113 hF (fun hF => ?_)
      refine r_aload_n (pc := 114) 0 dX12_leak_114 rfl rfl ?_
      refine gf_X12_100 (pc := 115) (j := 6) rfl dX12_leak_115 ?_
      refine r_lr (by decide) hF (fun b7 hF => ?_)
      refine r_iload_n (pc := 118) 2 dX12_leak_118 rfl rfl ?_
      refine r_iald (pc := 119) (j := 0) rfl dX12_leak_119 hF (fun hF => ?_)
      refine r_isub (pc := 120) dX12_leak_120 ?_
      refine r_i2l (pc := 121) dX12_leak_121 ?_
      refine r_ldiv (pc := 122) dX12_leak_122 hF (fun hF => ?_)
      exact r_lret (pc := 123) dX12_leak_123 hF
    · exact T.sub ((w_X12_leak_p80) M x0 hF) [2] [0] rfl rfl
set_option maxHeartbeats 4000000 in
theorem w_X12_leak {X : Option Cx} {G : EG} {res : Mem × Int64} (M : Mem) (a0 : Nat) (a1 : Int32) (hF : F_X12_leak M a0 a1 = some res) : T X (RJ G res) P_X12_leak M [(a0, 14)] [(0, .ref a0), (1, .int a1)] [] 0 := by
  unfold F_X12_leak at hF
  refine r_aload_n (pc := 0) 0 dX12_leak_0 rfl rfl ?_
  refine r_iload_n (pc := 1) 1 dX12_leak_1 rfl rfl ?_
  refine r_callV_I (pc := 2) (Py := P_X12_isBore) (n := 1) (As := [.int a1]) (fun q e => k_X12_isBore G _ a0 a1 q e) (c := 13) (Tb := TX12) (N := 58) rfl (by decide) (j0 := 0) rfl tw_1338 tw_1340 tw_41 tw_70 tw_1341 hd_X12_isBore ⟨Nat.le_of_ble_eq_true rfl, Nat.le_of_ble_eq_true rfl⟩ rfl [0] rfl rfl (Nat.le_of_ble_eq_true rfl) dX12_leak_2 hF (fun M1 r2 hF => ?_)
  refine r_if_ne (pc := 5) (tgt := 14) dX12_leak_5 rfl hF (fun hF => ?_) (fun hF => ?_)
  · refine r_iconst (pc := 14) (w := -1) dX12_leak_14 (by decide) ?_
    refine r_istore_n (pc := 15) (L1 := [(2, .int ((-1 : Int32))), (0, .ref a0), (1, .int a1)]) dX12_leak_15 rfl (by decide) rfl ?_
    refine r_iconst (pc := 16) (w := -1) dX12_leak_16 (by decide) ?_
    refine r_istore_n (pc := 17) (L1 := [(3, .int ((-1 : Int32))), (2, .int ((-1 : Int32))), (0, .ref a0), (1, .int a1)]) dX12_leak_17 rfl (by decide) rfl ?_
    refine r_iconst (pc := 18) (w := 0) dX12_leak_18 (by decide) ?_
    refine r_istore (pc := 19) (L1 := [(4, .int ((0 : Int32))), (3, .int ((-1 : Int32))), (2, .int ((-1 : Int32))), (0, .ref a0), (1, .int a1)]) dX12_leak_19 (by decide) rfl ?_
    exact T.sub ((w_X12_leak_p21 (w_X12_leak_p61) FU) M1 a0 a1 (-1 : Int32) (-1 : Int32) (0 : Int32) hF) [0] [3, 4, 2, 1, 0] rfl rfl
  · refine r_aload_n (pc := 8) 0 dX12_leak_8 rfl rfl ?_
    refine r_iconst (pc := 9) (w := -1) dX12_leak_9 (by decide) ?_
    refine r_callV_J (pc := 10) (Py := P_X12_refuseLong) (n := 1) (As := [.int ((-1 : Int32))]) (fun q e => k_X12_refuseLong G _ a0 (-1 : Int32) q e) (c := 13) (Tb := TX12) (N := 58) rfl (by decide) (j0 := 0) rfl tw_1361 tw_1363 tw_43 tw_70 tw_1364 hd_X12_refuseLong ⟨Nat.le_of_ble_eq_true rfl, Nat.le_of_ble_eq_true rfl⟩ rfl [0] rfl rfl (Nat.le_of_ble_eq_true rfl) dX12_leak_10 hF (fun M3 r4 hF => ?_)
    exact r_lret (pc := 13) dX12_leak_13 hF
theorem k_X12_leak (G : EG) (M : Mem) (a0 : Nat) (a1 : Int32) (q : Mem × Int64) (h : F_X12_leak M a0 a1 = some q) : Kt yX12_leak P_X12_leak M [(a0, 14)] [.ref a0, .int a1] (RJ G q) := Kt.of (by decide +kernel) rfl (Nat.le_of_ble_eq_true rfl) rfl (fun X hz => w_X12_leak M a0 a1 h)
set_option maxHeartbeats 4000000 in
theorem w_X12_lift_p37 {X : Option Cx} {G : EG} {res : Mem × Int32} : ∀ (M : Mem) (y0 : Int32), F_X12_lift_p37 M y0 = some res → T X (RI G res) P_X12_lift M [] [] [.int y0] 37 := by
  intro M y0 hF
  unfold F_X12_lift_p37 at hF
  exact r_iret (pc := 37) dX12_lift_37 hF
set_option maxHeartbeats 4000000 in
theorem w_X12_lift {X : Option Cx} {G : EG} {res : Mem × Int32} (M : Mem) (a0 : Nat) (a1 : Int32) (hF : F_X12_lift M a0 a1 = some res) : T X (RI G res) P_X12_lift M [(a0, 14)] [(0, .ref a0), (1, .int a1)] [] 0 := by
  unfold F_X12_lift at hF
  refine r_iload_n (pc := 0) 1 dX12_lift_0 rfl rfl ?_
  refine r_ldc (pc := 1) (w := -100000) tw_1404 dX12_lift_1 ?_
  refine r_icmp_ge (pc := 3) (tgt := 15) dX12_lift_3 rfl hF (fun hF => ?_) (fun hF => ?_)
  · refine r_iload_n (pc := 15) 1 dX12_lift_15 rfl rfl ?_
    refine r_ldc (pc := 16) (w := 200000) tw_1405 dX12_lift_16 ?_
    refine r_icmp_le (pc := 18) (tgt := 30) dX12_lift_18 rfl hF (fun hF => ?_) (fun hF => ?_)
    · refine r_aload_n (pc := 30) 0 dX12_lift_30 rfl rfl ?_
      refine r_iload_n (pc := 31) 1 dX12_lift_31 rfl rfl ?_
      refine r_i2l (pc := 32) dX12_lift_32 ?_
      refine r_callV_J (pc := 33) (Py := P_X12_liftAt) (n := 1) (As := [.long (a1.toInt64)]) (fun q e => k_X12_liftAt G _ a0 (a1.toInt64) q e) (c := 13) (Tb := TX12) (N := 58) rfl (by decide) (j0 := 0) rfl tw_1313 tw_1315 tw_37 tw_70 tw_1316 hd_X12_liftAt ⟨Nat.le_of_ble_eq_true rfl, Nat.le_of_ble_eq_true rfl⟩ rfl [0] rfl rfl (Nat.le_of_ble_eq_true rfl) dX12_lift_33 hF (fun M1 r2 hF => ?_)
      refine r_l2i (pc := 36) dX12_lift_36 ?_
      exact T.sub ((w_X12_lift_p37) M1 (r2.toInt32) hF) [] [] rfl rfl
    · refine r_aload_n (pc := 21) 0 dX12_lift_21 rfl rfl ?_
      refine r_bipush (pc := 22) (w := -6) dX12_lift_22 (by decide) ?_
      refine r_callV_I (pc := 24) (Py := P_X12_refuse) (n := 1) (As := [.int ((-6 : Int32))]) (fun q e => k_X12_refuse G _ a0 (-6 : Int32) q e) (c := 13) (Tb := TX12) (N := 58) rfl (by decide) (j0 := 0) rfl tw_1266 tw_1268 tw_28 tw_70 tw_1269 hd_X12_refuse ⟨Nat.le_of_ble_eq_true rfl, Nat.le_of_ble_eq_true rfl⟩ rfl [0] rfl rfl (Nat.le_of_ble_eq_true rfl) dX12_lift_24 hF (fun M3 r4 hF => ?_)
      refine r_goto (pc := 27) (tgt := 37) dX12_lift_27 rfl ?_
      exact T.sub ((w_X12_lift_p37) M3 r4 hF) [] [] rfl rfl
  · refine r_aload_n (pc := 6) 0 dX12_lift_6 rfl rfl ?_
    refine r_bipush (pc := 7) (w := -4) dX12_lift_7 (by decide) ?_
    refine r_callV_I (pc := 9) (Py := P_X12_refuse) (n := 1) (As := [.int ((-4 : Int32))]) (fun q e => k_X12_refuse G _ a0 (-4 : Int32) q e) (c := 13) (Tb := TX12) (N := 58) rfl (by decide) (j0 := 0) rfl tw_1266 tw_1268 tw_28 tw_70 tw_1269 hd_X12_refuse ⟨Nat.le_of_ble_eq_true rfl, Nat.le_of_ble_eq_true rfl⟩ rfl [0] rfl rfl (Nat.le_of_ble_eq_true rfl) dX12_lift_9 hF (fun M5 r6 hF => ?_)
    refine r_goto (pc := 12) (tgt := 37) dX12_lift_12 rfl ?_
    exact T.sub ((w_X12_lift_p37) M5 r6 hF) [] [] rfl rfl
theorem k_X12_lift (G : EG) (M : Mem) (a0 : Nat) (a1 : Int32) (q : Mem × Int32) (h : F_X12_lift M a0 a1 = some q) : Kt yX12_lift P_X12_lift M [(a0, 14)] [.ref a0, .int a1] (RI G q) := Kt.of (by decide +kernel) rfl (Nat.le_of_ble_eq_true rfl) rfl (fun X hz => w_X12_lift M a0 a1 h)
set_option maxHeartbeats 4000000 in
theorem w_X12_may_p42 {X : Option Cx} {G : EG} {res : Mem × Int32} : ∀ (M : Mem) (y0 : Int32), F_X12_may_p42 M y0 = some res → T X (RI G res) P_X12_may M [] [] [.int y0] 42 := by
  intro M y0 hF
  unfold F_X12_may_p42 at hF
  exact r_iret (pc := 42) dX12_may_42 hF
set_option maxHeartbeats 4000000 in
theorem w_X12_may {X : Option Cx} {G : EG} {res : Mem × Int32} (M : Mem) (a0 : Nat) (a1 : Int32) (a2 : Int32) (hF : F_X12_may M a0 a1 a2 = some res) : T X (RI G res) P_X12_may M [(a0, 14)] [(0, .ref a0), (1, .int a1), (2, .int a2)] [] 0 := by
  unfold F_X12_may at hF
  refine r_aload_n (pc := 0) 0 dX12_may_0 rfl rfl ?_
  refine r_iload_n (pc := 1) 1 dX12_may_1 rfl rfl ?_
  refine r_callV_I (pc := 2) (Py := P_X12_isBore) (n := 1) (As := [.int a1]) (fun q e => k_X12_isBore G _ a0 a1 q e) (c := 13) (Tb := TX12) (N := 58) rfl (by decide) (j0 := 0) rfl tw_1338 tw_1340 tw_41 tw_70 tw_1341 hd_X12_isBore ⟨Nat.le_of_ble_eq_true rfl, Nat.le_of_ble_eq_true rfl⟩ rfl [0] rfl rfl (Nat.le_of_ble_eq_true rfl) dX12_may_2 hF (fun M1 r2 hF => ?_)
  refine r_if_ne (pc := 5) (tgt := 16) dX12_may_5 rfl hF (fun hF => ?_) (fun hF => ?_)
  · refine r_iload_n (pc := 16) 2 dX12_may_16 rfl rfl ?_
    refine r_i2l (pc := 17) dX12_may_17 ?_
    refine r_lconst (pc := 18) (w := 0) dX12_may_18 (by decide) ?_
    refine r_lconst (pc := 19) (w := 1) dX12_may_19 (by decide) ?_
    refine r_callS_I (pc := 20) (Py := P_X12_in) (n := 3) (As := [.long (a2.toInt64), .long ((0 : Int64)), .long ((1 : Int64))]) (fun q e => k_X12_in G _ (a2.toInt64) (0 : Int64) (1 : Int64) q e) tw_1342 tw_1343 tw_70 tw_1344 hd_X12_in ⟨Nat.le_of_ble_eq_true rfl, Nat.le_of_ble_eq_true rfl⟩ rfl [] rfl rfl (Nat.le_of_ble_eq_true rfl) dX12_may_20 hF (fun M3 r4 hF => ?_)
    refine r_if_eq (pc := 23) (tgt := 36) dX12_may_23 rfl hF (fun hF => ?_) (fun hF => ?_)
    · refine r_aload_n (pc := 36) 0 dX12_may_36 rfl rfl ?_
      refine r_bipush (pc := 37) (w := -2) dX12_may_37 (by decide) ?_
      refine r_callV_I (pc := 39) (Py := P_X12_refuse) (n := 1) (As := [.int ((-2 : Int32))]) (fun q e => k_X12_refuse G _ a0 (-2 : Int32) q e) (c := 13) (Tb := TX12) (N := 58) rfl (by decide) (j0 := 0) rfl tw_1266 tw_1268 tw_28 tw_70 tw_1269 hd_X12_refuse ⟨Nat.le_of_ble_eq_true rfl, Nat.le_of_ble_eq_true rfl⟩ rfl [0] rfl rfl (Nat.le_of_ble_eq_true rfl) dX12_may_39 hF (fun M5 r6 hF => ?_)
      exact T.sub ((w_X12_may_p42) M5 r6 hF) [] [] rfl rfl
    · refine r_aload_n (pc := 26) 0 dX12_may_26 rfl rfl ?_
      refine r_iload_n (pc := 27) 1 dX12_may_27 rfl rfl ?_
      refine r_iload_n (pc := 28) 2 dX12_may_28 rfl rfl ?_
      refine r_callV_J (pc := 29) (Py := P_X12_mayOf) (n := 2) (As := [.int a1, .int a2]) (fun q e => k_X12_mayOf G _ a0 a1 a2 q e) (c := 13) (Tb := TX12) (N := 58) rfl (by decide) (j0 := 0) rfl tw_1278 tw_1280 tw_31 tw_70 tw_1281 hd_X12_mayOf ⟨Nat.le_of_ble_eq_true rfl, Nat.le_of_ble_eq_true rfl⟩ rfl [0] rfl rfl (Nat.le_of_ble_eq_true rfl) dX12_may_29 hF (fun M7 r8 hF => ?_)
      refine r_l2i (pc := 32) dX12_may_32 ?_
      refine r_goto (pc := 33) (tgt := 42) dX12_may_33 rfl ?_
      exact T.sub ((w_X12_may_p42) M7 (r8.toInt32) hF) [] [] rfl rfl
  · refine r_aload_n (pc := 8) 0 dX12_may_8 rfl rfl ?_
    refine r_iconst (pc := 9) (w := -1) dX12_may_9 (by decide) ?_
    refine r_callV_I (pc := 10) (Py := P_X12_refuse) (n := 1) (As := [.int ((-1 : Int32))]) (fun q e => k_X12_refuse G _ a0 (-1 : Int32) q e) (c := 13) (Tb := TX12) (N := 58) rfl (by decide) (j0 := 0) rfl tw_1266 tw_1268 tw_28 tw_70 tw_1269 hd_X12_refuse ⟨Nat.le_of_ble_eq_true rfl, Nat.le_of_ble_eq_true rfl⟩ rfl [0] rfl rfl (Nat.le_of_ble_eq_true rfl) dX12_may_10 hF (fun M9 r10 hF => ?_)
    refine r_goto (pc := 13) (tgt := 42) dX12_may_13 rfl ?_
    exact T.sub ((w_X12_may_p42) M9 r10 hF) [] [] rfl rfl
theorem k_X12_may (G : EG) (M : Mem) (a0 : Nat) (a1 : Int32) (a2 : Int32) (q : Mem × Int32) (h : F_X12_may M a0 a1 a2 = some q) : Kt yX12_may P_X12_may M [(a0, 14)] [.ref a0, .int a1, .int a2] (RI G q) := Kt.of (by decide +kernel) rfl (Nat.le_of_ble_eq_true rfl) rfl (fun X hz => w_X12_may M a0 a1 a2 h)
set_option maxHeartbeats 4000000 in
theorem w_X12_need_p34 {X : Option Cx} {G : EG} {res : Mem × Int64} : ∀ (M : Mem) (y0 : Int64), F_X12_need_p34 M y0 = some res → T X (RJ G res) P_X12_need M [] [] [.long y0] 34 := by
  intro M y0 hF
  unfold F_X12_need_p34 at hF
  exact r_lret (pc := 34) dX12_need_34 hF
set_option maxHeartbeats 4000000 in
theorem w_X12_need {X : Option Cx} {G : EG} {res : Mem × Int64} (M : Mem) (a0 : Nat) (a1 : Int32) (hF : F_X12_need M a0 a1 = some res) : T X (RJ G res) P_X12_need M [(a0, 14)] [(0, .ref a0), (1, .int a1)] [] 0 := by
  unfold F_X12_need at hF
  refine r_iload_n (pc := 0) 1 dX12_need_0 rfl rfl ?_
  refine r_if_ge (pc := 1) (tgt := 13) dX12_need_1 rfl hF (fun hF => ?_) (fun hF => ?_)
  · refine r_iload_n (pc := 13) 1 dX12_need_13 rfl rfl ?_
    refine r_sipush (pc := 14) (w := 9999) dX12_need_14 (by decide) ?_
    refine r_icmp_le (pc := 17) (tgt := 29) dX12_need_17 rfl hF (fun hF => ?_) (fun hF => ?_)
    · refine r_aload_n (pc := 29) 0 dX12_need_29 rfl rfl ?_
      refine r_iload_n (pc := 30) 1 dX12_need_30 rfl rfl ?_
      refine r_callV_J (pc := 31) (Py := P_X12_needOf) (n := 1) (As := [.int a1]) (fun q e => k_X12_needOf G _ a0 a1 q e) (c := 13) (Tb := TX12) (N := 58) rfl (by decide) (j0 := 0) rfl tw_1282 tw_1284 tw_32 tw_70 tw_1285 hd_X12_needOf ⟨Nat.le_of_ble_eq_true rfl, Nat.le_of_ble_eq_true rfl⟩ rfl [0] rfl rfl (Nat.le_of_ble_eq_true rfl) dX12_need_31 hF (fun M1 r2 hF => ?_)
      exact T.sub ((w_X12_need_p34) M1 r2 hF) [] [] rfl rfl
    · refine r_aload_n (pc := 20) 0 dX12_need_20 rfl rfl ?_
      refine r_bipush (pc := 21) (w := -6) dX12_need_21 (by decide) ?_
      refine r_callV_J (pc := 23) (Py := P_X12_refuseLong) (n := 1) (As := [.int ((-6 : Int32))]) (fun q e => k_X12_refuseLong G _ a0 (-6 : Int32) q e) (c := 13) (Tb := TX12) (N := 58) rfl (by decide) (j0 := 0) rfl tw_1361 tw_1363 tw_43 tw_70 tw_1364 hd_X12_refuseLong ⟨Nat.le_of_ble_eq_true rfl, Nat.le_of_ble_eq_true rfl⟩ rfl [0] rfl rfl (Nat.le_of_ble_eq_true rfl) dX12_need_23 hF (fun M3 r4 hF => ?_)
      refine r_goto (pc := 26) (tgt := 34) dX12_need_26 rfl ?_
      exact T.sub ((w_X12_need_p34) M3 r4 hF) [] [] rfl rfl
  · refine r_aload_n (pc := 4) 0 dX12_need_4 rfl rfl ?_
    refine r_bipush (pc := 5) (w := -4) dX12_need_5 (by decide) ?_
    refine r_callV_J (pc := 7) (Py := P_X12_refuseLong) (n := 1) (As := [.int ((-4 : Int32))]) (fun q e => k_X12_refuseLong G _ a0 (-4 : Int32) q e) (c := 13) (Tb := TX12) (N := 58) rfl (by decide) (j0 := 0) rfl tw_1361 tw_1363 tw_43 tw_70 tw_1364 hd_X12_refuseLong ⟨Nat.le_of_ble_eq_true rfl, Nat.le_of_ble_eq_true rfl⟩ rfl [0] rfl rfl (Nat.le_of_ble_eq_true rfl) dX12_need_7 hF (fun M5 r6 hF => ?_)
    refine r_goto (pc := 10) (tgt := 34) dX12_need_10 rfl ?_
    exact T.sub ((w_X12_need_p34) M5 r6 hF) [] [] rfl rfl
theorem k_X12_need (G : EG) (M : Mem) (a0 : Nat) (a1 : Int32) (q : Mem × Int64) (h : F_X12_need M a0 a1 = some q) : Kt yX12_need P_X12_need M [(a0, 14)] [.ref a0, .int a1] (RJ G q) := Kt.of (by decide +kernel) rfl (Nat.le_of_ble_eq_true rfl) rfl (fun X hz => w_X12_need M a0 a1 h)
set_option maxHeartbeats 4000000 in
theorem w_X12_open {X : Option Cx} {G : EG} {res : Mem × Int32} (M : Mem) (a0 : Nat) (a1 : Int32) (a2 : Int32) (hF : F_X12_open M a0 a1 a2 = some res) : T X (RI G res) P_X12_open M [(a0, 14)] [(0, .ref a0), (1, .int a1), (2, .int a2)] [] 0 := by
  unfold F_X12_open at hF
  refine r_aload_n (pc := 0) 0 dX12_open_0 rfl rfl ?_
  refine r_iload_n (pc := 1) 1 dX12_open_1 rfl rfl ?_
  refine r_callV_I (pc := 2) (Py := P_X12_isBore) (n := 1) (As := [.int a1]) (fun q e => k_X12_isBore G _ a0 a1 q e) (c := 13) (Tb := TX12) (N := 58) rfl (by decide) (j0 := 0) rfl tw_1338 tw_1340 tw_41 tw_70 tw_1341 hd_X12_isBore ⟨Nat.le_of_ble_eq_true rfl, Nat.le_of_ble_eq_true rfl⟩ rfl [0] rfl rfl (Nat.le_of_ble_eq_true rfl) dX12_open_2 hF (fun M1 r2 hF => ?_)
  refine r_if_ne (pc := 5) (tgt := 14) dX12_open_5 rfl hF (fun hF => ?_) (fun hF => ?_)
  · refine r_aload_n (pc := 14) 0 dX12_open_14 rfl rfl ?_
    refine gf_X12_37 (pc := 15) (j := 0) rfl dX12_open_15 ?_
    refine r_lr (by decide) hF (fun b3 hF => ?_)
    refine r_iload_n (pc := 18) 1 dX12_open_18 rfl rfl ?_
    refine r_zald (pc := 19) (j := 0) rfl dX12_open_19 hF (fun hF => ?_)
    refine r_iload_n (pc := 20) 2 dX12_open_20 rfl rfl ?_
    refine r_icmp_ne (pc := 21) (tgt := 26) dX12_open_21 rfl hF (fun hF => ?_) (fun hF => ?_)
    · refine r_aload_n (pc := 26) 0 dX12_open_26 rfl rfl ?_
      refine gf_X12_37 (pc := 27) (j := 1) rfl dX12_open_27 ?_
      refine r_lr (by decide) hF (fun b4 hF => ?_)
      refine r_iload_n (pc := 30) 1 dX12_open_30 rfl rfl ?_
      refine r_iload_n (pc := 31) 2 dX12_open_31 rfl rfl ?_
      refine r_zast (pc := 32) (j := 0) rfl dX12_open_32 hF (fun M5 hF => ?_)
      refine r_iconst (pc := 33) (w := 1) dX12_open_33 (by decide) ?_
      exact r_iret (pc := 34) dX12_open_34 hF
    · refine r_iconst (pc := 24) (w := 0) dX12_open_24 (by decide) ?_
      exact r_iret (pc := 25) dX12_open_25 hF
  · refine r_aload_n (pc := 8) 0 dX12_open_8 rfl rfl ?_
    refine r_iconst (pc := 9) (w := -1) dX12_open_9 (by decide) ?_
    refine r_callV_I (pc := 10) (Py := P_X12_refuse) (n := 1) (As := [.int ((-1 : Int32))]) (fun q e => k_X12_refuse G _ a0 (-1 : Int32) q e) (c := 13) (Tb := TX12) (N := 58) rfl (by decide) (j0 := 0) rfl tw_1266 tw_1268 tw_28 tw_70 tw_1269 hd_X12_refuse ⟨Nat.le_of_ble_eq_true rfl, Nat.le_of_ble_eq_true rfl⟩ rfl [0] rfl rfl (Nat.le_of_ble_eq_true rfl) dX12_open_10 hF (fun M6 r7 hF => ?_)
    exact r_iret (pc := 13) dX12_open_13 hF
theorem k_X12_open (G : EG) (M : Mem) (a0 : Nat) (a1 : Int32) (a2 : Int32) (q : Mem × Int32) (h : F_X12_open M a0 a1 a2 = some q) : Kt yX12_open P_X12_open M [(a0, 14)] [.ref a0, .int a1, .int a2] (RI G q) := Kt.of (by decide +kernel) rfl (Nat.le_of_ble_eq_true rfl) rfl (fun X hz => w_X12_open M a0 a1 a2 h)
set_option maxHeartbeats 4000000 in
theorem w_X12_point_p45 {X : Option Cx} {G : EG} {res : Mem × Int32} : ∀ (M : Mem) (x0 : Nat), F_X12_point_p45 M x0 = some res → T X (RI G res) P_X12_point M [(x0, 14)] [(0, .ref x0)] [] 45 := by
  intro M x0 hF
  unfold F_X12_point_p45 at hF
  refine r_aload_n (pc := 45) 0 dX12_point_45 rfl rfl ?_
  refine r_bipush (pc := 46) (w := -4) dX12_point_46 (by decide) ?_
  refine r_callV_I (pc := 48) (Py := P_X12_refuse) (n := 1) (As := [.int ((-4 : Int32))]) (fun q e => k_X12_refuse G _ x0 (-4 : Int32) q e) (c := 13) (Tb := TX12) (N := 58) rfl (by decide) (j0 := 0) rfl tw_1266 tw_1268 tw_28 tw_70 tw_1269 hd_X12_refuse ⟨Nat.le_of_ble_eq_true rfl, Nat.le_of_ble_eq_true rfl⟩ rfl [0] rfl rfl (Nat.le_of_ble_eq_true rfl) dX12_point_48 hF (fun M1 r2 hF => ?_)
  exact r_iret (pc := 51) dX12_point_51 hF
set_option maxHeartbeats 4000000 in
theorem w_X12_point_p74 {X : Option Cx} {G : EG} {res : Mem × Int32} : ∀ (M : Mem) (x0 : Nat), F_X12_point_p74 M x0 = some res → T X (RI G res) P_X12_point M [(x0, 14)] [(0, .ref x0)] [] 74 := by
  intro M x0 hF
  unfold F_X12_point_p74 at hF
  refine r_aload_n (pc := 74) 0 dX12_point_74 rfl rfl ?_
  refine r_bipush (pc := 75) (w := -6) dX12_point_75 (by decide) ?_
  refine r_callV_I (pc := 77) (Py := P_X12_refuse) (n := 1) (As := [.int ((-6 : Int32))]) (fun q e => k_X12_refuse G _ x0 (-6 : Int32) q e) (c := 13) (Tb := TX12) (N := 58) rfl (by decide) (j0 := 0) rfl tw_1266 tw_1268 tw_28 tw_70 tw_1269 hd_X12_refuse ⟨Nat.le_of_ble_eq_true rfl, Nat.le_of_ble_eq_true rfl⟩ rfl [0] rfl rfl (Nat.le_of_ble_eq_true rfl) dX12_point_77 hF (fun M1 r2 hF => ?_)
  exact r_iret (pc := 80) dX12_point_80 hF
set_option maxHeartbeats 4000000 in
theorem w_X12_point_p52 {X : Option Cx} {G : EG} {res : Mem × Int32} : ∀ (M : Mem) (x0 : Nat) (x1 : Int32) (x2 : Int32), F_X12_point_p52 M x0 x1 x2 = some res → T X (RI G res) P_X12_point M [(x0, 14)] [(0, .ref x0), (1, .int x1), (2, .int x2)] [] 52 := by
  intro M x0 x1 x2 hF
  unfold F_X12_point_p52 at hF
  refine r_iload_n (pc := 52) 1 dX12_point_52 rfl rfl ?_
  refine r_bipush (pc := 53) (w := 99) dX12_point_53 (by decide) ?_
  refine r_icmp_gt (pc := 55) (tgt := 74) dX12_point_55 rfl hF (fun hF => ?_) (fun hF => ?_)
  · exact T.sub ((w_X12_point_p74) M x0 hF) [0] [0] rfl rfl
  · refine r_iload_n (pc := 58) 2 dX12_point_58 rfl rfl ?_
    refine r_sipush (pc := 59) (w := 999) dX12_point_59 (by decide) ?_
    refine r_icmp_gt (pc := 62) (tgt := 74) dX12_point_62 rfl hF (fun hF => ?_) (fun hF => ?_)
    · exact T.sub ((w_X12_point_p74) M x0 hF) [0] [0] rfl rfl
    · refine r_aload_n (pc := 65) 0 dX12_point_65 rfl rfl ?_
      refine gf_X12_208 (pc := 66) (j := 0) rfl dX12_point_66 ?_
      refine r_bipush (pc := 69) (w := 8) dX12_point_69 (by decide) ?_
      refine r_icmp_ne (pc := 71) (tgt := 81) dX12_point_71 rfl hF (fun hF => ?_) (fun hF => ?_)
      · refine r_aload_n (pc := 81) 0 dX12_point_81 rfl rfl ?_
        refine gf_X12_66 (pc := 82) (j := 0) rfl dX12_point_82 ?_
        refine r_lr (by decide) hF (fun b1 hF => ?_)
        refine r_aload_n (pc := 85) 0 dX12_point_85 rfl rfl ?_
        refine gf_X12_208 (pc := 86) (j := 1) rfl dX12_point_86 ?_
        refine r_iload_n (pc := 89) 1 dX12_point_89 rfl rfl ?_
        refine r_iast (pc := 90) (j := 0) rfl dX12_point_90 hF (fun M2 hF => ?_)
        refine r_aload_n (pc := 91) 0 dX12_point_91 rfl rfl ?_
        refine gf_X12_69 (pc := 92) (j := 1) rfl dX12_point_92 ?_
        refine r_lr (by decide) hF (fun b3 hF => ?_)
        refine r_aload_n (pc := 95) 0 dX12_point_95 rfl rfl ?_
        refine gf_X12_208 (pc := 96) (j := 2) rfl dX12_point_96 ?_
        refine r_iload_n (pc := 99) 2 dX12_point_99 rfl rfl ?_
        refine r_iast (pc := 100) (j := 0) rfl dX12_point_100 hF (fun M4 hF => ?_)
        refine r_aload_n (pc := 101) 0 dX12_point_101 rfl rfl ?_
        refine r_dup (pc := 102) dX12_point_102 rfl ?_
        refine gf_X12_208 (pc := 103) (j := 2) rfl dX12_point_103 ?_
        refine r_iconst (pc := 106) (w := 1) dX12_point_106 (by decide) ?_
        refine r_iadd (pc := 107) dX12_point_107 ?_
        refine pf_X12_208 (pc := 108) (j := 2) rfl dX12_point_108 hF (fun M5 hF => ?_)
        refine r_aload_n (pc := 111) 0 dX12_point_111 rfl rfl ?_
        refine gf_X12_208 (pc := 112) (j := 2) rfl dX12_point_112 ?_
        exact r_iret (pc := 115) dX12_point_115 hF
      · exact T.sub ((w_X12_point_p74) M x0 hF) [0] [0] rfl rfl
set_option maxHeartbeats 4000000 in
theorem w_X12_point_p41 {X : Option Cx} {G : EG} {res : Mem × Int32} : ∀ (M : Mem) (x0 : Nat) (x1 : Int32) (x2 : Int32) (y0 : Int32) (y1 : Nat) (y2 : Int32), F_X12_point_p41 M x0 x1 x2 y0 y1 y2 = some res → T X (RI G res) P_X12_point M [(x0, 14), (y1, 20)] [(0, .ref x0), (1, .int x1), (2, .int x2)] [.int y2, .ref y1, .int y0] 41 := by
  intro M x0 x1 x2 y0 y1 y2 hF
  unfold F_X12_point_p41 at hF
  refine r_iald (pc := 41) (j := 1) rfl dX12_point_41 hF (fun hF => ?_)
  refine r_icmp_gt (pc := 42) (tgt := 52) dX12_point_42 rfl hF (fun hF => ?_) (fun hF => ?_)
  · exact T.sub ((w_X12_point_p52) M x0 x1 x2 hF) [0] [0, 1, 2] rfl rfl
  · exact T.sub ((w_X12_point_p45) M x0 hF) [0] [0] rfl rfl
set_option maxHeartbeats 4000000 in
theorem w_X12_point {X : Option Cx} {G : EG} {res : Mem × Int32} (M : Mem) (a0 : Nat) (a1 : Int32) (a2 : Int32) (hF : F_X12_point M a0 a1 a2 = some res) : T X (RI G res) P_X12_point M [(a0, 14)] [(0, .ref a0), (1, .int a1), (2, .int a2)] [] 0 := by
  unfold F_X12_point at hF
  refine r_iload_n (pc := 0) 1 dX12_point_0 rfl rfl ?_
  refine r_bipush (pc := 1) (w := -20) dX12_point_1 (by decide) ?_
  refine r_icmp_lt (pc := 3) (tgt := 45) dX12_point_3 rfl hF (fun hF => ?_) (fun hF => ?_)
  · exact T.sub ((w_X12_point_p45) M a0 hF) [0] [0] rfl rfl
  · refine r_iload_n (pc := 6) 2 dX12_point_6 rfl rfl ?_
    refine r_bipush (pc := 7) (w := 100) dX12_point_7 (by decide) ?_
    refine r_icmp_lt (pc := 9) (tgt := 45) dX12_point_9 rfl hF (fun hF => ?_) (fun hF => ?_)
    · exact T.sub ((w_X12_point_p45) M a0 hF) [0] [0] rfl rfl
    · refine r_aload_n (pc := 12) 0 dX12_point_12 rfl rfl ?_
      refine gf_X12_208 (pc := 13) (j := 0) rfl dX12_point_13 ?_
      refine r_if_le (pc := 16) (tgt := 52) dX12_point_16 rfl hF (fun hF => ?_) (fun hF => ?_)
      · exact T.sub ((w_X12_point_p52) M a0 a1 a2 hF) [0] [0, 1, 2] rfl rfl
      · refine r_iload_n (pc := 19) 1 dX12_point_19 rfl rfl ?_
        refine r_aload_n (pc := 20) 0 dX12_point_20 rfl rfl ?_
        refine gf_X12_66 (pc := 21) (j := 0) rfl dX12_point_21 ?_
        refine r_lr (by decide) hF (fun b1 hF => ?_)
        refine r_aload_n (pc := 24) 0 dX12_point_24 rfl rfl ?_
        refine gf_X12_208 (pc := 25) (j := 1) rfl dX12_point_25 ?_
        refine r_if_ne (pc := 28) (tgt := 35) dX12_point_28 rfl hF (fun hF => ?_) (fun hF => ?_)
        · refine r_aload_n (pc := 35) 0 dX12_point_35 rfl rfl ?_
          refine gf_X12_208 (pc := 36) (j := 1) rfl dX12_point_36 ?_
          refine r_iconst (pc := 39) (w := 1) dX12_point_39 (by decide) ?_
          refine r_isub (pc := 40) dX12_point_40 ?_
          exact T.sub ((w_X12_point_p41) M a0 a1 a2 a1 b1 ((gI M 1322 a0) - (1 : Int32)) hF) [1, 0] [0, 1, 2] rfl rfl
        · refine r_iconst (pc := 31) (w := 0) dX12_point_31 (by decide) ?_
          refine r_goto (pc := 32) (tgt := 41) dX12_point_32 rfl ?_
          exact T.sub ((w_X12_point_p41) M a0 a1 a2 a1 b1 (0 : Int32) hF) [1, 0] [0, 1, 2] rfl rfl
theorem k_X12_point (G : EG) (M : Mem) (a0 : Nat) (a1 : Int32) (a2 : Int32) (q : Mem × Int32) (h : F_X12_point M a0 a1 a2 = some q) : Kt yX12_point P_X12_point M [(a0, 14)] [.ref a0, .int a1, .int a2] (RI G q) := Kt.of (by decide +kernel) rfl (Nat.le_of_ble_eq_true rfl) rfl (fun X hz => w_X12_point M a0 a1 a2 h)
set_option maxHeartbeats 4000000 in
theorem w_X12_price {X : Option Cx} {G : EG} {res : Mem × Int32} (M : Mem) (a0 : Nat) (a1 : Int32) (a2 : Int32) (hF : F_X12_price M a0 a1 a2 = some res) : T X (RI G res) P_X12_price M [(a0, 14)] [(0, .ref a0), (1, .int a1), (2, .int a2)] [] 0 := by
  unfold F_X12_price at hF
  refine r_aload_n (pc := 0) 0 dX12_price_0 rfl rfl ?_
  refine r_iload_n (pc := 1) 1 dX12_price_1 rfl rfl ?_
  refine r_iload_n (pc := 2) 2 dX12_price_2 rfl rfl ?_
  refine r_sipush (pc := 3) (w := 999) dX12_price_3 (by decide) ?_
  refine r_callV_I (pc := 6) (Py := P_X12_barred) (n := 3) (As := [.int a1, .int a2, .int ((999 : Int32))]) (fun q e => k_X12_barred G _ a0 a1 a2 (999 : Int32) q e) (c := 13) (Tb := TX12) (N := 58) rfl (by decide) (j0 := 0) rfl tw_1410 tw_1412 tw_44 tw_70 tw_1413 hd_X12_barred ⟨Nat.le_of_ble_eq_true rfl, Nat.le_of_ble_eq_true rfl⟩ rfl [0] rfl rfl (Nat.le_of_ble_eq_true rfl) dX12_price_6 hF (fun M1 r2 hF => ?_)
  refine r_istore_n (pc := 9) (L1 := [(3, .int r2), (0, .ref a0), (1, .int a1), (2, .int a2)]) dX12_price_9 rfl (by decide) rfl ?_
  refine r_iload_n (pc := 10) 0 dX12_price_10 rfl rfl ?_
  refine r_if_eq (pc := 11) (tgt := 20) dX12_price_11 rfl hF (fun hF => ?_) (fun hF => ?_)
  · refine r_aload_n (pc := 20) 1 dX12_price_20 rfl rfl ?_
    refine gf_X12_72 (pc := 21) (j := 0) rfl dX12_price_21 ?_
    refine r_lr (by decide) hF (fun b3 hF => ?_)
    refine r_iload_n (pc := 24) 2 dX12_price_24 rfl rfl ?_
    refine r_iald (pc := 25) (j := 0) rfl dX12_price_25 hF (fun hF => ?_)
    refine r_gI (pc := 26) hF (fun v4 hF => ?_)
    refine r_istore (pc := 26) (L1 := [(4, .int v4), (3, .int r2), (0, .ref a0), (1, .int a1), (2, .int a2)]) dX12_price_26 (by decide) rfl ?_
    refine r_aload_n (pc := 28) 2 dX12_price_28 rfl rfl ?_
    refine gf_X12_72 (pc := 29) (j := 1) rfl dX12_price_29 ?_
    refine r_lr (by decide) hF (fun b5 hF => ?_)
    refine r_iload_n (pc := 32) 3 dX12_price_32 rfl rfl ?_
    refine r_iload_n (pc := 33) 4 dX12_price_33 rfl rfl ?_
    refine r_iast (pc := 34) (j := 0) rfl dX12_price_34 hF (fun M6 hF => ?_)
    refine r_iload (pc := 35) 0 dX12_price_35 rfl ?_
    exact r_iret (pc := 37) dX12_price_37 hF
  · refine r_aload_n (pc := 14) 1 dX12_price_14 rfl rfl ?_
    refine r_iload_n (pc := 15) 0 dX12_price_15 rfl rfl ?_
    refine r_callV_I (pc := 16) (Py := P_X12_refuse) (n := 1) (As := [.int r2]) (fun q e => k_X12_refuse G _ a0 r2 q e) (c := 13) (Tb := TX12) (N := 58) rfl (by decide) (j0 := 0) rfl tw_1266 tw_1268 tw_28 tw_70 tw_1269 hd_X12_refuse ⟨Nat.le_of_ble_eq_true rfl, Nat.le_of_ble_eq_true rfl⟩ rfl [0] rfl rfl (Nat.le_of_ble_eq_true rfl) dX12_price_16 hF (fun M7 r8 hF => ?_)
    exact r_iret (pc := 19) dX12_price_19 hF
theorem k_X12_price (G : EG) (M : Mem) (a0 : Nat) (a1 : Int32) (a2 : Int32) (q : Mem × Int32) (h : F_X12_price M a0 a1 a2 = some q) : Kt yX12_price P_X12_price M [(a0, 14)] [.ref a0, .int a1, .int a2] (RI G q) := Kt.of (by decide +kernel) rfl (Nat.le_of_ble_eq_true rfl) rfl (fun X hz => w_X12_price M a0 a1 a2 h)
set_option maxHeartbeats 4000000 in
theorem w_X12_reading_p42 {X : Option Cx} {G : EG} {res : Mem × Int32} : ∀ (M : Mem) (x0 : Nat), F_X12_reading_p42 M x0 = some res → T X (RI G res) P_X12_reading M [(x0, 14)] [(0, .ref x0)] [] 42 := by
  intro M x0 hF
  unfold F_X12_reading_p42 at hF
  refine r_aload_n (pc := 42) 0 dX12_reading_42 rfl rfl ?_
  refine r_bipush (pc := 43) (w := -6) dX12_reading_43 (by decide) ?_
  refine r_callV_I (pc := 45) (Py := P_X12_refuse) (n := 1) (As := [.int ((-6 : Int32))]) (fun q e => k_X12_refuse G _ x0 (-6 : Int32) q e) (c := 13) (Tb := TX12) (N := 58) rfl (by decide) (j0 := 0) rfl tw_1266 tw_1268 tw_28 tw_70 tw_1269 hd_X12_refuse ⟨Nat.le_of_ble_eq_true rfl, Nat.le_of_ble_eq_true rfl⟩ rfl [0] rfl rfl (Nat.le_of_ble_eq_true rfl) dX12_reading_45 hF (fun M1 r2 hF => ?_)
  exact r_iret (pc := 48) dX12_reading_48 hF
set_option maxHeartbeats 4000000 in
theorem w_X12_reading {X : Option Cx} {G : EG} {res : Mem × Int32} (M : Mem) (a0 : Nat) (a1 : Int32) (a2 : Int32) (hF : F_X12_reading M a0 a1 a2 = some res) : T X (RI G res) P_X12_reading M [(a0, 14)] [(0, .ref a0), (1, .int a1), (2, .int a2)] [] 0 := by
  unfold F_X12_reading at hF
  refine r_aload_n (pc := 0) 0 dX12_reading_0 rfl rfl ?_
  refine r_iload_n (pc := 1) 1 dX12_reading_1 rfl rfl ?_
  refine r_callV_I (pc := 2) (Py := P_X12_isBore) (n := 1) (As := [.int a1]) (fun q e => k_X12_isBore G _ a0 a1 q e) (c := 13) (Tb := TX12) (N := 58) rfl (by decide) (j0 := 0) rfl tw_1338 tw_1340 tw_41 tw_70 tw_1341 hd_X12_isBore ⟨Nat.le_of_ble_eq_true rfl, Nat.le_of_ble_eq_true rfl⟩ rfl [0] rfl rfl (Nat.le_of_ble_eq_true rfl) dX12_reading_2 hF (fun M1 r2 hF => ?_)
  refine r_if_ne (pc := 5) (tgt := 14) dX12_reading_5 rfl hF (fun hF => ?_) (fun hF => ?_)
  · refine r_iload_n (pc := 14) 2 dX12_reading_14 rfl rfl ?_
    refine r_ldc (pc := 15) (w := -100000) tw_1404 dX12_reading_15 ?_
    refine r_icmp_ge (pc := 17) (tgt := 27) dX12_reading_17 rfl hF (fun hF => ?_) (fun hF => ?_)
    · refine r_iload_n (pc := 27) 2 dX12_reading_27 rfl rfl ?_
      refine r_ldc (pc := 28) (w := 200000) tw_1405 dX12_reading_28 ?_
      refine r_icmp_gt (pc := 30) (tgt := 42) dX12_reading_30 rfl hF (fun hF => ?_) (fun hF => ?_)
      · exact T.sub ((w_X12_reading_p42) M1 a0 hF) [0] [0] rfl rfl
      · refine r_aload_n (pc := 33) 0 dX12_reading_33 rfl rfl ?_
        refine gf_X12_342 (pc := 34) (j := 0) rfl dX12_reading_34 ?_
        refine r_bipush (pc := 37) (w := 20) dX12_reading_37 (by decide) ?_
        refine r_icmp_ne (pc := 39) (tgt := 49) dX12_reading_39 rfl hF (fun hF => ?_) (fun hF => ?_)
        · refine r_aload_n (pc := 49) 0 dX12_reading_49 rfl rfl ?_
          refine gf_X12_97 (pc := 50) (j := 0) rfl dX12_reading_50 ?_
          refine r_lr (by decide) hF (fun b3 hF => ?_)
          refine r_aload_n (pc := 53) 0 dX12_reading_53 rfl rfl ?_
          refine gf_X12_342 (pc := 54) (j := 1) rfl dX12_reading_54 ?_
          refine r_iload_n (pc := 57) 1 dX12_reading_57 rfl rfl ?_
          refine r_iast (pc := 58) (j := 0) rfl dX12_reading_58 hF (fun M4 hF => ?_)
          refine r_aload_n (pc := 59) 0 dX12_reading_59 rfl rfl ?_
          refine gf_X12_100 (pc := 60) (j := 1) rfl dX12_reading_60 ?_
          refine r_lr (by decide) hF (fun b5 hF => ?_)
          refine r_aload_n (pc := 63) 0 dX12_reading_63 rfl rfl ?_
          refine gf_X12_342 (pc := 64) (j := 2) rfl dX12_reading_64 ?_
          refine r_aload_n (pc := 67) 0 dX12_reading_67 rfl rfl ?_
          refine gf_X12_167 (pc := 68) (j := 2) rfl dX12_reading_68 ?_
          refine r_iast (pc := 71) (j := 0) rfl dX12_reading_71 hF (fun M6 hF => ?_)
          refine r_aload_n (pc := 72) 0 dX12_reading_72 rfl rfl ?_
          refine gf_X12_103 (pc := 73) (j := 2) rfl dX12_reading_73 ?_
          refine r_lr (by decide) hF (fun b7 hF => ?_)
          refine r_aload_n (pc := 76) 0 dX12_reading_76 rfl rfl ?_
          refine gf_X12_342 (pc := 77) (j := 3) rfl dX12_reading_77 ?_
          refine r_iload_n (pc := 80) 2 dX12_reading_80 rfl rfl ?_
          refine r_i2l (pc := 81) dX12_reading_81 ?_
          refine r_aload_n (pc := 82) 0 dX12_reading_82 rfl rfl ?_
          refine r_iload_n (pc := 83) 1 dX12_reading_83 rfl rfl ?_
          refine r_iconst (pc := 84) (w := 0) dX12_reading_84 (by decide) ?_
          refine r_callV_J (pc := 85) (Py := P_X12_warmthOf) (n := 2) (As := [.int a1, .int ((0 : Int32))]) (fun q e => k_X12_warmthOf G _ a0 a1 (0 : Int32) q e) (c := 13) (Tb := TX12) (N := 58) rfl (by decide) (j0 := 3) rfl tw_1291 tw_1293 tw_34 tw_70 tw_1294 hd_X12_warmthOf ⟨Nat.le_of_ble_eq_true rfl, Nat.le_of_ble_eq_true rfl⟩ rfl [3] rfl rfl (Nat.le_of_ble_eq_true rfl) dX12_reading_85 hF (fun M8 r9 hF => ?_)
          refine r_lsub (pc := 88) dX12_reading_88 ?_
          refine r_last (pc := 89) (j := 0) rfl dX12_reading_89 hF (fun M10 hF => ?_)
          refine r_aload_n (pc := 90) 0 dX12_reading_90 rfl rfl ?_
          refine r_dup (pc := 91) dX12_reading_91 rfl ?_
          refine gf_X12_342 (pc := 92) (j := 3) rfl dX12_reading_92 ?_
          refine r_iconst (pc := 95) (w := 1) dX12_reading_95 (by decide) ?_
          refine r_iadd (pc := 96) dX12_reading_96 ?_
          refine pf_X12_342 (pc := 97) (j := 3) rfl dX12_reading_97 hF (fun M11 hF => ?_)
          refine r_aload_n (pc := 100) 0 dX12_reading_100 rfl rfl ?_
          refine gf_X12_342 (pc := 101) (j := 3) rfl dX12_reading_101 ?_
          refine r_iconst (pc := 104) (w := 1) dX12_reading_104 (by decide) ?_
          refine r_isub (pc := 105) dX12_reading_105 ?_
          exact r_iret (pc := 106) dX12_reading_106 hF
        · exact T.sub ((w_X12_reading_p42) M1 a0 hF) [0] [0] rfl rfl
    · refine r_aload_n (pc := 20) 0 dX12_reading_20 rfl rfl ?_
      refine r_bipush (pc := 21) (w := -4) dX12_reading_21 (by decide) ?_
      refine r_callV_I (pc := 23) (Py := P_X12_refuse) (n := 1) (As := [.int ((-4 : Int32))]) (fun q e => k_X12_refuse G _ a0 (-4 : Int32) q e) (c := 13) (Tb := TX12) (N := 58) rfl (by decide) (j0 := 0) rfl tw_1266 tw_1268 tw_28 tw_70 tw_1269 hd_X12_refuse ⟨Nat.le_of_ble_eq_true rfl, Nat.le_of_ble_eq_true rfl⟩ rfl [0] rfl rfl (Nat.le_of_ble_eq_true rfl) dX12_reading_23 hF (fun M12 r13 hF => ?_)
      exact r_iret (pc := 26) dX12_reading_26 hF
  · refine r_aload_n (pc := 8) 0 dX12_reading_8 rfl rfl ?_
    refine r_iconst (pc := 9) (w := -1) dX12_reading_9 (by decide) ?_
    refine r_callV_I (pc := 10) (Py := P_X12_refuse) (n := 1) (As := [.int ((-1 : Int32))]) (fun q e => k_X12_refuse G _ a0 (-1 : Int32) q e) (c := 13) (Tb := TX12) (N := 58) rfl (by decide) (j0 := 0) rfl tw_1266 tw_1268 tw_28 tw_70 tw_1269 hd_X12_refuse ⟨Nat.le_of_ble_eq_true rfl, Nat.le_of_ble_eq_true rfl⟩ rfl [0] rfl rfl (Nat.le_of_ble_eq_true rfl) dX12_reading_10 hF (fun M14 r15 hF => ?_)
    exact r_iret (pc := 13) dX12_reading_13 hF
theorem k_X12_reading (G : EG) (M : Mem) (a0 : Nat) (a1 : Int32) (a2 : Int32) (q : Mem × Int32) (h : F_X12_reading M a0 a1 a2 = some q) : Kt yX12_reading P_X12_reading M [(a0, 14)] [.ref a0, .int a1, .int a2] (RI G q) := Kt.of (by decide +kernel) rfl (Nat.le_of_ble_eq_true rfl) rfl (fun X hz => w_X12_reading M a0 a1 a2 h)
set_option maxHeartbeats 4000000 in
theorem w_X12_rule_p51 {X : Option Cx} {G : EG} {res : Mem × Int32} : ∀ (M : Mem) (x0 : Nat), F_X12_rule_p51 M x0 = some res → T X (RI G res) P_X12_rule M [(x0, 14)] [(0, .ref x0)] [] 51 := by
  intro M x0 hF
  unfold F_X12_rule_p51 at hF
  refine r_aload_n (pc := 51) 0 dX12_rule_51 rfl rfl ?_
  refine r_bipush (pc := 52) (w := -6) dX12_rule_52 (by decide) ?_
  refine r_callV_I (pc := 54) (Py := P_X12_refuse) (n := 1) (As := [.int ((-6 : Int32))]) (fun q e => k_X12_refuse G _ x0 (-6 : Int32) q e) (c := 13) (Tb := TX12) (N := 58) rfl (by decide) (j0 := 0) rfl tw_1266 tw_1268 tw_28 tw_70 tw_1269 hd_X12_refuse ⟨Nat.le_of_ble_eq_true rfl, Nat.le_of_ble_eq_true rfl⟩ rfl [0] rfl rfl (Nat.le_of_ble_eq_true rfl) dX12_rule_54 hF (fun M1 r2 hF => ?_)
  exact r_iret (pc := 57) dX12_rule_57 hF
set_option maxHeartbeats 4000000 in
theorem w_X12_rule_p101 {X : Option Cx} {G : EG} {res : Mem × Int32} : ∀ (M : Mem) (x0 : Nat) (x1 : Int32) (x2 : Int32) (y0 : Int32), F_X12_rule_p101 M x0 x1 x2 y0 = some res → T X (RI G res) P_X12_rule M [(x0, 14)] [(0, .ref x0), (1, .int x1), (2, .int x2)] [.int y0] 101 := by
  intro M x0 x1 x2 y0 hF
  unfold F_X12_rule_p101 at hF
  refine r_istore_n (pc := 101) (L1 := [(3, .int y0), (0, .ref x0), (1, .int x1), (2, .int x2)]) dX12_rule_101 rfl (by decide) rfl ?_
  refine r_aload_n (pc := 102) 1 dX12_rule_102 rfl rfl ?_
  refine r_iconst (pc := 103) (w := 0) dX12_rule_103 (by decide) ?_
  refine pf_X12_224 (pc := 104) (j := 0) rfl dX12_rule_104 hF (fun M1 hF => ?_)
  refine r_iload_n (pc := 107) 0 dX12_rule_107 rfl rfl ?_
  refine r_if_ne (pc := 108) (tgt := 119) dX12_rule_108 rfl hF (fun hF => ?_) (fun hF => ?_)
  · refine r_aload_n (pc := 119) 1 dX12_rule_119 rfl rfl ?_
    refine gf_X12_81 (pc := 120) (j := 0) rfl dX12_rule_120 ?_
    refine r_lr (by decide) hF (fun b2 hF => ?_)
    refine r_aload_n (pc := 123) 1 dX12_rule_123 rfl rfl ?_
    refine gf_X12_232 (pc := 124) (j := 1) rfl dX12_rule_124 ?_
    refine r_iload_n (pc := 127) 2 dX12_rule_127 rfl rfl ?_
    refine r_iast (pc := 128) (j := 0) rfl dX12_rule_128 hF (fun M3 hF => ?_)
    refine r_aload_n (pc := 129) 1 dX12_rule_129 rfl rfl ?_
    refine gf_X12_84 (pc := 130) (j := 1) rfl dX12_rule_130 ?_
    refine r_lr (by decide) hF (fun b4 hF => ?_)
    refine r_aload_n (pc := 133) 1 dX12_rule_133 rfl rfl ?_
    refine gf_X12_232 (pc := 134) (j := 2) rfl dX12_rule_134 ?_
    refine r_iload_n (pc := 137) 3 dX12_rule_137 rfl rfl ?_
    refine r_iast (pc := 138) (j := 0) rfl dX12_rule_138 hF (fun M5 hF => ?_)
    refine r_aload_n (pc := 139) 1 dX12_rule_139 rfl rfl ?_
    refine gf_X12_87 (pc := 140) (j := 2) rfl dX12_rule_140 ?_
    refine r_lr (by decide) hF (fun b6 hF => ?_)
    refine r_aload_n (pc := 143) 1 dX12_rule_143 rfl rfl ?_
    refine gf_X12_232 (pc := 144) (j := 3) rfl dX12_rule_144 ?_
    refine r_aload_n (pc := 147) 1 dX12_rule_147 rfl rfl ?_
    refine gf_X12_235 (pc := 148) (j := 3) rfl dX12_rule_148 ?_
    refine r_iast (pc := 151) (j := 0) rfl dX12_rule_151 hF (fun M7 hF => ?_)
    refine r_aload_n (pc := 152) 1 dX12_rule_152 rfl rfl ?_
    refine r_dup (pc := 153) dX12_rule_153 rfl ?_
    refine gf_X12_232 (pc := 154) (j := 3) rfl dX12_rule_154 ?_
    refine r_iconst (pc := 157) (w := 1) dX12_rule_157 (by decide) ?_
    refine r_iadd (pc := 158) dX12_rule_158 ?_
    refine pf_X12_232 (pc := 159) (j := 3) rfl dX12_rule_159 hF (fun M8 hF => ?_)
    refine r_aload_n (pc := 162) 1 dX12_rule_162 rfl rfl ?_
    refine gf_X12_232 (pc := 163) (j := 3) rfl dX12_rule_163 ?_
    exact r_iret (pc := 166) dX12_rule_166 hF
  · refine r_bipush (pc := 111) (w := -20) dX12_rule_111 (by decide) ?_
    refine r_aload_n (pc := 113) 1 dX12_rule_113 rfl rfl ?_
    refine gf_X12_229 (pc := 114) (j := 0) rfl dX12_rule_114 ?_
    refine r_isub (pc := 117) dX12_rule_117 ?_
    exact r_iret (pc := 118) dX12_rule_118 hF
set_option maxHeartbeats 4000000 in
theorem w_X12_rule_p100 {X : Option Cx} {G : EG} {res : Mem × Int32} : ∀ (M : Mem) (x0 : Nat) (x1 : Int32) (x2 : Int32), F_X12_rule_p100 M x0 x1 x2 = some res → T X (RI G res) P_X12_rule M [(x0, 14)] [(0, .ref x0), (1, .int x1), (2, .int x2)] [] 100 := by
  intro M x0 x1 x2 hF
  unfold F_X12_rule_p100 at hF
  refine r_iconst (pc := 100) (w := 0) dX12_rule_100 (by decide) ?_
  exact T.sub ((w_X12_rule_p101) M x0 x1 x2 (0 : Int32) hF) [0] [0, 1, 2] rfl rfl
set_option maxHeartbeats 4000000 in
theorem w_X12_rule {X : Option Cx} {G : EG} {res : Mem × Int32} (M : Mem) (a0 : Nat) (a1 : Int32) (a2 : Int32) (hF : F_X12_rule M a0 a1 a2 = some res) : T X (RI G res) P_X12_rule M [(a0, 14)] [(0, .ref a0), (1, .int a1), (2, .int a2)] [] 0 := by
  unfold F_X12_rule at hF
  refine r_iload_n (pc := 0) 1 dX12_rule_0 rfl rfl ?_
  refine r_i2l (pc := 1) dX12_rule_1 ?_
  refine r_lconst (pc := 2) (w := 0) dX12_rule_2 (by decide) ?_
  refine r_lconst (pc := 3) (w := 1) dX12_rule_3 (by decide) ?_
  refine r_callS_I (pc := 4) (Py := P_X12_in) (n := 3) (As := [.long (a1.toInt64), .long ((0 : Int64)), .long ((1 : Int64))]) (fun q e => k_X12_in G _ (a1.toInt64) (0 : Int64) (1 : Int64) q e) tw_1342 tw_1343 tw_70 tw_1344 hd_X12_in ⟨Nat.le_of_ble_eq_true rfl, Nat.le_of_ble_eq_true rfl⟩ rfl [] rfl rfl (Nat.le_of_ble_eq_true rfl) dX12_rule_4 hF (fun M1 r2 hF => ?_)
  refine r_if_ne (pc := 7) (tgt := 17) dX12_rule_7 rfl hF (fun hF => ?_) (fun hF => ?_)
  · refine r_iload_n (pc := 17) 2 dX12_rule_17 rfl rfl ?_
    refine r_aload_n (pc := 18) 0 dX12_rule_18 rfl rfl ?_
    refine gf_X12_167 (pc := 19) (j := 0) rfl dX12_rule_19 ?_
    refine r_bipush (pc := 22) (w := 24) dX12_rule_22 (by decide) ?_
    refine r_idivc (pc := 24) dX12_rule_24 (by decide) ?_
    refine r_icmp_ge (pc := 25) (tgt := 35) dX12_rule_25 rfl hF (fun hF => ?_) (fun hF => ?_)
    · refine r_iload_n (pc := 35) 2 dX12_rule_35 rfl rfl ?_
      refine r_sipush (pc := 36) (w := 333) dX12_rule_36 (by decide) ?_
      refine r_icmp_gt (pc := 39) (tgt := 51) dX12_rule_39 rfl hF (fun hF => ?_) (fun hF => ?_)
      · exact T.sub ((w_X12_rule_p51) M1 a0 hF) [0] [0] rfl rfl
      · refine r_aload_n (pc := 42) 0 dX12_rule_42 rfl rfl ?_
        refine gf_X12_232 (pc := 43) (j := 0) rfl dX12_rule_43 ?_
        refine r_bipush (pc := 46) (w := 30) dX12_rule_46 (by decide) ?_
        refine r_icmp_ne (pc := 48) (tgt := 58) dX12_rule_48 rfl hF (fun hF => ?_) (fun hF => ?_)
        · refine r_aload_n (pc := 58) 0 dX12_rule_58 rfl rfl ?_
          refine r_iconst (pc := 59) (w := 0) dX12_rule_59 (by decide) ?_
          refine pf_X12_229 (pc := 60) (j := 0) rfl dX12_rule_60 hF (fun M3 hF => ?_)
          refine r_aload_n (pc := 63) 0 dX12_rule_63 rfl rfl ?_
          refine r_iconst (pc := 64) (w := 0) dX12_rule_64 (by decide) ?_
          refine pf_X12_235 (pc := 65) (j := 0) rfl dX12_rule_65 hF (fun M4 hF => ?_)
          refine r_aload_n (pc := 68) 0 dX12_rule_68 rfl rfl ?_
          refine r_iconst (pc := 69) (w := 0) dX12_rule_69 (by decide) ?_
          refine pf_X12_242 (pc := 70) (j := 0) rfl dX12_rule_70 hF (fun M5 hF => ?_)
          refine r_aload_n (pc := 73) 0 dX12_rule_73 rfl rfl ?_
          refine r_iconst (pc := 74) (w := 0) dX12_rule_74 (by decide) ?_
          refine r_callV_V (pc := 75) (Py := P_X12_sum FD) (n := 1) (As := [.int ((0 : Int32))]) (fun q e => k_X12_sum G _ _ _ q e) (c := 13) (Tb := TX12) (N := 58) rfl (by decide) (j0 := 0) rfl tw_1428 tw_1430 tw_45 tw_70 tw_1431 hd_X12_sum ⟨Nat.le_of_ble_eq_true rfl, Nat.le_of_ble_eq_true rfl⟩ rfl [0] rfl rfl (Nat.le_of_ble_eq_true rfl) dX12_rule_75 hF (fun M6 r7 hF => ?_)
          refine r_aload_n (pc := 78) 0 dX12_rule_78 rfl rfl ?_
          refine gf_X12_242 (pc := 79) (j := 0) rfl dX12_rule_79 ?_
          refine r_if_ne (pc := 82) (tgt := 100) dX12_rule_82 rfl hF (fun hF => ?_) (fun hF => ?_)
          · exact T.sub ((w_X12_rule_p100) M6 a0 a1 a2 hF) [0] [0, 1, 2] rfl rfl
          · refine r_aload_n (pc := 85) 0 dX12_rule_85 rfl rfl ?_
            refine gf_X12_229 (pc := 86) (j := 0) rfl dX12_rule_86 ?_
            refine r_aload_n (pc := 89) 0 dX12_rule_89 rfl rfl ?_
            refine gf_X12_224 (pc := 90) (j := 0) rfl dX12_rule_90 ?_
            refine r_icmp_ne (pc := 93) (tgt := 100) dX12_rule_93 rfl hF (fun hF => ?_) (fun hF => ?_)
            · exact T.sub ((w_X12_rule_p100) M6 a0 a1 a2 hF) [0] [0, 1, 2] rfl rfl
            · refine r_iconst (pc := 96) (w := 1) dX12_rule_96 (by decide) ?_
              refine r_goto (pc := 97) (tgt := 101) dX12_rule_97 rfl ?_
              exact T.sub ((w_X12_rule_p101) M6 a0 a1 a2 (1 : Int32) hF) [0] [0, 1, 2] rfl rfl
        · exact T.sub ((w_X12_rule_p51) M1 a0 hF) [0] [0] rfl rfl
    · refine r_aload_n (pc := 28) 0 dX12_rule_28 rfl rfl ?_
      refine r_bipush (pc := 29) (w := -4) dX12_rule_29 (by decide) ?_
      refine r_callV_I (pc := 31) (Py := P_X12_refuse) (n := 1) (As := [.int ((-4 : Int32))]) (fun q e => k_X12_refuse G _ a0 (-4 : Int32) q e) (c := 13) (Tb := TX12) (N := 58) rfl (by decide) (j0 := 0) rfl tw_1266 tw_1268 tw_28 tw_70 tw_1269 hd_X12_refuse ⟨Nat.le_of_ble_eq_true rfl, Nat.le_of_ble_eq_true rfl⟩ rfl [0] rfl rfl (Nat.le_of_ble_eq_true rfl) dX12_rule_31 hF (fun M8 r9 hF => ?_)
      exact r_iret (pc := 34) dX12_rule_34 hF
  · refine r_aload_n (pc := 10) 0 dX12_rule_10 rfl rfl ?_
    refine r_bipush (pc := 11) (w := -2) dX12_rule_11 (by decide) ?_
    refine r_callV_I (pc := 13) (Py := P_X12_refuse) (n := 1) (As := [.int ((-2 : Int32))]) (fun q e => k_X12_refuse G _ a0 (-2 : Int32) q e) (c := 13) (Tb := TX12) (N := 58) rfl (by decide) (j0 := 0) rfl tw_1266 tw_1268 tw_28 tw_70 tw_1269 hd_X12_refuse ⟨Nat.le_of_ble_eq_true rfl, Nat.le_of_ble_eq_true rfl⟩ rfl [0] rfl rfl (Nat.le_of_ble_eq_true rfl) dX12_rule_13 hF (fun M10 r11 hF => ?_)
    exact r_iret (pc := 16) dX12_rule_16 hF
theorem k_X12_rule (G : EG) (M : Mem) (a0 : Nat) (a1 : Int32) (a2 : Int32) (q : Mem × Int32) (h : F_X12_rule M a0 a1 a2 = some q) : Kt yX12_rule P_X12_rule M [(a0, 14)] [.ref a0, .int a1, .int a2] (RI G q) := Kt.of (by decide +kernel) rfl (Nat.le_of_ble_eq_true rfl) rfl (fun X hz => w_X12_rule M a0 a1 a2 h)
set_option maxHeartbeats 4000000 in
theorem w_X12_share {X : Option Cx} {G : EG} {res : Mem × Int32} (M : Mem) (a0 : Nat) (a1 : Int32) (hF : F_X12_share M a0 a1 = some res) : T X (RI G res) P_X12_share M [(a0, 14)] [(0, .ref a0), (1, .int a1)] [] 0 := by
  unfold F_X12_share at hF
  refine r_iload_n (pc := 0) 1 dX12_share_0 rfl rfl ?_
  refine r_if_ge (pc := 1) (tgt := 11) dX12_share_1 rfl hF (fun hF => ?_) (fun hF => ?_)
  · refine r_iload_n (pc := 11) 1 dX12_share_11 rfl rfl ?_
    refine r_sipush (pc := 12) (w := 999) dX12_share_12 (by decide) ?_
    refine r_icmp_le (pc := 15) (tgt := 25) dX12_share_15 rfl hF (fun hF => ?_) (fun hF => ?_)
    · refine r_aload_n (pc := 25) 0 dX12_share_25 rfl rfl ?_
      refine gf_X12_181 (pc := 26) (j := 0) rfl dX12_share_26 ?_
      refine r_gI (pc := 29) hF (fun v1 hF => ?_)
      refine r_istore_n (pc := 29) (L1 := [(2, .int v1), (0, .ref a0), (1, .int a1)]) dX12_share_29 rfl (by decide) rfl ?_
      refine r_aload_n (pc := 30) 1 dX12_share_30 rfl rfl ?_
      refine r_iload_n (pc := 31) 2 dX12_share_31 rfl rfl ?_
      refine pf_X12_181 (pc := 32) (j := 0) rfl dX12_share_32 hF (fun M2 hF => ?_)
      refine r_iload_n (pc := 35) 0 dX12_share_35 rfl rfl ?_
      exact r_iret (pc := 36) dX12_share_36 hF
    · refine r_aload_n (pc := 18) 0 dX12_share_18 rfl rfl ?_
      refine r_bipush (pc := 19) (w := -6) dX12_share_19 (by decide) ?_
      refine r_callV_I (pc := 21) (Py := P_X12_refuse) (n := 1) (As := [.int ((-6 : Int32))]) (fun q e => k_X12_refuse G _ a0 (-6 : Int32) q e) (c := 13) (Tb := TX12) (N := 58) rfl (by decide) (j0 := 0) rfl tw_1266 tw_1268 tw_28 tw_70 tw_1269 hd_X12_refuse ⟨Nat.le_of_ble_eq_true rfl, Nat.le_of_ble_eq_true rfl⟩ rfl [0] rfl rfl (Nat.le_of_ble_eq_true rfl) dX12_share_21 hF (fun M3 r4 hF => ?_)
      exact r_iret (pc := 24) dX12_share_24 hF
  · refine r_aload_n (pc := 4) 0 dX12_share_4 rfl rfl ?_
    refine r_bipush (pc := 5) (w := -4) dX12_share_5 (by decide) ?_
    refine r_callV_I (pc := 7) (Py := P_X12_refuse) (n := 1) (As := [.int ((-4 : Int32))]) (fun q e => k_X12_refuse G _ a0 (-4 : Int32) q e) (c := 13) (Tb := TX12) (N := 58) rfl (by decide) (j0 := 0) rfl tw_1266 tw_1268 tw_28 tw_70 tw_1269 hd_X12_refuse ⟨Nat.le_of_ble_eq_true rfl, Nat.le_of_ble_eq_true rfl⟩ rfl [0] rfl rfl (Nat.le_of_ble_eq_true rfl) dX12_share_7 hF (fun M5 r6 hF => ?_)
    exact r_iret (pc := 10) dX12_share_10 hF
theorem k_X12_share (G : EG) (M : Mem) (a0 : Nat) (a1 : Int32) (q : Mem × Int32) (h : F_X12_share M a0 a1 = some q) : Kt yX12_share P_X12_share M [(a0, 14)] [.ref a0, .int a1] (RI G q) := Kt.of (by decide +kernel) rfl (Nat.le_of_ble_eq_true rfl) rfl (fun X hz => w_X12_share M a0 a1 h)
set_option maxHeartbeats 4000000 in
theorem w_X12_soil_p22 {X : Option Cx} {G : EG} {res : Mem × Int32} : ∀ (M : Mem) (x0 : Nat), F_X12_soil_p22 M x0 = some res → T X (RI G res) P_X12_soil M [(x0, 14)] [(0, .ref x0)] [] 22 := by
  intro M x0 hF
  unfold F_X12_soil_p22 at hF
  refine r_aload_n (pc := 22) 0 dX12_soil_22 rfl rfl ?_
  refine r_bipush (pc := 23) (w := -4) dX12_soil_23 (by decide) ?_
  refine r_callV_I (pc := 25) (Py := P_X12_refuse) (n := 1) (As := [.int ((-4 : Int32))]) (fun q e => k_X12_refuse G _ x0 (-4 : Int32) q e) (c := 13) (Tb := TX12) (N := 58) rfl (by decide) (j0 := 0) rfl tw_1266 tw_1268 tw_28 tw_70 tw_1269 hd_X12_refuse ⟨Nat.le_of_ble_eq_true rfl, Nat.le_of_ble_eq_true rfl⟩ rfl [0] rfl rfl (Nat.le_of_ble_eq_true rfl) dX12_soil_25 hF (fun M1 r2 hF => ?_)
  exact r_iret (pc := 28) dX12_soil_28 hF
set_option maxHeartbeats 4000000 in
theorem w_X12_soil_p42 {X : Option Cx} {G : EG} {res : Mem × Int32} : ∀ (M : Mem) (x0 : Nat), F_X12_soil_p42 M x0 = some res → T X (RI G res) P_X12_soil M [(x0, 14)] [(0, .ref x0)] [] 42 := by
  intro M x0 hF
  unfold F_X12_soil_p42 at hF
  refine r_aload_n (pc := 42) 0 dX12_soil_42 rfl rfl ?_
  refine r_bipush (pc := 43) (w := -6) dX12_soil_43 (by decide) ?_
  refine r_callV_I (pc := 45) (Py := P_X12_refuse) (n := 1) (As := [.int ((-6 : Int32))]) (fun q e => k_X12_refuse G _ x0 (-6 : Int32) q e) (c := 13) (Tb := TX12) (N := 58) rfl (by decide) (j0 := 0) rfl tw_1266 tw_1268 tw_28 tw_70 tw_1269 hd_X12_refuse ⟨Nat.le_of_ble_eq_true rfl, Nat.le_of_ble_eq_true rfl⟩ rfl [0] rfl rfl (Nat.le_of_ble_eq_true rfl) dX12_soil_45 hF (fun M1 r2 hF => ?_)
  exact r_iret (pc := 48) dX12_soil_48 hF
set_option maxHeartbeats 4000000 in
theorem w_X12_soil {X : Option Cx} {G : EG} {res : Mem × Int32} (M : Mem) (a0 : Nat) (a1 : Int32) (a2 : Int32) (a3 : Int32) (hF : F_X12_soil M a0 a1 a2 a3 = some res) : T X (RI G res) P_X12_soil M [(a0, 14)] [(0, .ref a0), (1, .int a1), (2, .int a2), (3, .int a3)] [] 0 := by
  unfold F_X12_soil at hF
  refine r_aload_n (pc := 0) 0 dX12_soil_0 rfl rfl ?_
  refine r_iload_n (pc := 1) 1 dX12_soil_1 rfl rfl ?_
  refine r_callV_I (pc := 2) (Py := P_X12_isBore) (n := 1) (As := [.int a1]) (fun q e => k_X12_isBore G _ a0 a1 q e) (c := 13) (Tb := TX12) (N := 58) rfl (by decide) (j0 := 0) rfl tw_1338 tw_1340 tw_41 tw_70 tw_1341 hd_X12_isBore ⟨Nat.le_of_ble_eq_true rfl, Nat.le_of_ble_eq_true rfl⟩ rfl [0] rfl rfl (Nat.le_of_ble_eq_true rfl) dX12_soil_2 hF (fun M1 r2 hF => ?_)
  refine r_if_ne (pc := 5) (tgt := 14) dX12_soil_5 rfl hF (fun hF => ?_) (fun hF => ?_)
  · refine r_iload_n (pc := 14) 2 dX12_soil_14 rfl rfl ?_
    refine r_if_lt (pc := 15) (tgt := 22) dX12_soil_15 rfl hF (fun hF => ?_) (fun hF => ?_)
    · exact T.sub ((w_X12_soil_p22) M1 a0 hF) [0] [0] rfl rfl
    · refine r_iload_n (pc := 18) 3 dX12_soil_18 rfl rfl ?_
      refine r_if_ge (pc := 19) (tgt := 29) dX12_soil_19 rfl hF (fun hF => ?_) (fun hF => ?_)
      · refine r_iload_n (pc := 29) 2 dX12_soil_29 rfl rfl ?_
        refine r_sipush (pc := 30) (w := 999) dX12_soil_30 (by decide) ?_
        refine r_icmp_gt (pc := 33) (tgt := 42) dX12_soil_33 rfl hF (fun hF => ?_) (fun hF => ?_)
        · exact T.sub ((w_X12_soil_p42) M1 a0 hF) [0] [0] rfl rfl
        · refine r_iload_n (pc := 36) 3 dX12_soil_36 rfl rfl ?_
          refine r_bipush (pc := 37) (w := 100) dX12_soil_37 (by decide) ?_
          refine r_icmp_le (pc := 39) (tgt := 49) dX12_soil_39 rfl hF (fun hF => ?_) (fun hF => ?_)
          · refine r_aload_n (pc := 49) 0 dX12_soil_49 rfl rfl ?_
            refine gf_X12_31 (pc := 50) (j := 0) rfl dX12_soil_50 ?_
            refine r_lr (by decide) hF (fun b3 hF => ?_)
            refine r_iload_n (pc := 53) 1 dX12_soil_53 rfl rfl ?_
            refine r_iald (pc := 54) (j := 0) rfl dX12_soil_54 hF (fun hF => ?_)
            refine r_gI (pc := 55) hF (fun v4 hF => ?_)
            refine r_istore (pc := 55) (L1 := [(4, .int v4), (0, .ref a0), (1, .int a1), (2, .int a2), (3, .int a3)]) dX12_soil_55 (by decide) rfl ?_
            refine r_aload_n (pc := 57) 1 dX12_soil_57 rfl rfl ?_
            refine gf_X12_31 (pc := 58) (j := 1) rfl dX12_soil_58 ?_
            refine r_lr (by decide) hF (fun b5 hF => ?_)
            refine r_iload_n (pc := 61) 2 dX12_soil_61 rfl rfl ?_
            refine r_iload_n (pc := 62) 3 dX12_soil_62 rfl rfl ?_
            refine r_iast (pc := 63) (j := 0) rfl dX12_soil_63 hF (fun M6 hF => ?_)
            refine r_aload_n (pc := 64) 1 dX12_soil_64 rfl rfl ?_
            refine gf_X12_34 (pc := 65) (j := 2) rfl dX12_soil_65 ?_
            refine r_lr (by decide) hF (fun b7 hF => ?_)
            refine r_iload_n (pc := 68) 2 dX12_soil_68 rfl rfl ?_
            refine r_iload_n (pc := 69) 4 dX12_soil_69 rfl rfl ?_
            refine r_iast (pc := 70) (j := 0) rfl dX12_soil_70 hF (fun M8 hF => ?_)
            refine r_iload (pc := 71) 0 dX12_soil_71 rfl ?_
            exact r_iret (pc := 73) dX12_soil_73 hF
          · exact T.sub ((w_X12_soil_p42) M1 a0 hF) [0] [0] rfl rfl
      · exact T.sub ((w_X12_soil_p22) M1 a0 hF) [0] [0] rfl rfl
  · refine r_aload_n (pc := 8) 0 dX12_soil_8 rfl rfl ?_
    refine r_iconst (pc := 9) (w := -1) dX12_soil_9 (by decide) ?_
    refine r_callV_I (pc := 10) (Py := P_X12_refuse) (n := 1) (As := [.int ((-1 : Int32))]) (fun q e => k_X12_refuse G _ a0 (-1 : Int32) q e) (c := 13) (Tb := TX12) (N := 58) rfl (by decide) (j0 := 0) rfl tw_1266 tw_1268 tw_28 tw_70 tw_1269 hd_X12_refuse ⟨Nat.le_of_ble_eq_true rfl, Nat.le_of_ble_eq_true rfl⟩ rfl [0] rfl rfl (Nat.le_of_ble_eq_true rfl) dX12_soil_10 hF (fun M9 r10 hF => ?_)
    exact r_iret (pc := 13) dX12_soil_13 hF
theorem k_X12_soil (G : EG) (M : Mem) (a0 : Nat) (a1 : Int32) (a2 : Int32) (a3 : Int32) (q : Mem × Int32) (h : F_X12_soil M a0 a1 a2 a3 = some q) : Kt yX12_soil P_X12_soil M [(a0, 14)] [.ref a0, .int a1, .int a2, .int a3] (RI G q) := Kt.of (by decide +kernel) rfl (Nat.le_of_ble_eq_true rfl) rfl (fun X hz => w_X12_soil M a0 a1 a2 a3 h)
