set_option maxHeartbeats 4000000 in
theorem w_X12_sun {X : Option Cx} {G : EG} {res : Mem × Int32} (M : Mem) (a0 : Nat) (a1 : Int32) (a2 : Int32) (hF : F_X12_sun M a0 a1 a2 = some res) : T X (RI G res) P_X12_sun M [(a0, 14)] [(0, .ref a0), (1, .int a1), (2, .int a2)] [] 0 := by
  unfold F_X12_sun at hF
  refine r_aload_n (pc := 0) 0 dX12_sun_0 rfl rfl ?_
  refine r_iload_n (pc := 1) 1 dX12_sun_1 rfl rfl ?_
  refine r_iload_n (pc := 2) 2 dX12_sun_2 rfl rfl ?_
  refine r_ldc (pc := 3) (w := 99999) tw_1418 dX12_sun_3 ?_
  refine r_callV_I (pc := 5) (Py := P_X12_barred) (n := 3) (As := [.int a1, .int a2, .int ((99999 : Int32))]) (fun q e => k_X12_barred G _ a0 a1 a2 (99999 : Int32) q e) (c := 13) (Tb := TX12) (N := 58) rfl (by decide) (j0 := 0) rfl tw_1410 tw_1412 tw_44 tw_70 tw_1413 hd_X12_barred ⟨Nat.le_of_ble_eq_true rfl, Nat.le_of_ble_eq_true rfl⟩ rfl [0] rfl rfl (Nat.le_of_ble_eq_true rfl) dX12_sun_5 hF (fun M1 r2 hF => ?_)
  refine r_istore_n (pc := 8) (L1 := [(3, .int r2), (0, .ref a0), (1, .int a1), (2, .int a2)]) dX12_sun_8 rfl (by decide) rfl ?_
  refine r_iload_n (pc := 9) 0 dX12_sun_9 rfl rfl ?_
  refine r_if_eq (pc := 10) (tgt := 19) dX12_sun_10 rfl hF (fun hF => ?_) (fun hF => ?_)
  · refine r_aload_n (pc := 19) 1 dX12_sun_19 rfl rfl ?_
    refine gf_X12_75 (pc := 20) (j := 0) rfl dX12_sun_20 ?_
    refine r_lr (by decide) hF (fun b3 hF => ?_)
    refine r_iload_n (pc := 23) 2 dX12_sun_23 rfl rfl ?_
    refine r_iald (pc := 24) (j := 0) rfl dX12_sun_24 hF (fun hF => ?_)
    refine r_gI (pc := 25) hF (fun v4 hF => ?_)
    refine r_istore (pc := 25) (L1 := [(4, .int v4), (3, .int r2), (0, .ref a0), (1, .int a1), (2, .int a2)]) dX12_sun_25 (by decide) rfl ?_
    refine r_aload_n (pc := 27) 2 dX12_sun_27 rfl rfl ?_
    refine gf_X12_75 (pc := 28) (j := 1) rfl dX12_sun_28 ?_
    refine r_lr (by decide) hF (fun b5 hF => ?_)
    refine r_iload_n (pc := 31) 3 dX12_sun_31 rfl rfl ?_
    refine r_iload_n (pc := 32) 4 dX12_sun_32 rfl rfl ?_
    refine r_iast (pc := 33) (j := 0) rfl dX12_sun_33 hF (fun M6 hF => ?_)
    refine r_iload (pc := 34) 0 dX12_sun_34 rfl ?_
    exact r_iret (pc := 36) dX12_sun_36 hF
  · refine r_aload_n (pc := 13) 1 dX12_sun_13 rfl rfl ?_
    refine r_iload_n (pc := 14) 0 dX12_sun_14 rfl rfl ?_
    refine r_callV_I (pc := 15) (Py := P_X12_refuse) (n := 1) (As := [.int r2]) (fun q e => k_X12_refuse G _ a0 r2 q e) (c := 13) (Tb := TX12) (N := 58) rfl (by decide) (j0 := 0) rfl tw_1266 tw_1268 tw_28 tw_70 tw_1269 hd_X12_refuse ⟨Nat.le_of_ble_eq_true rfl, Nat.le_of_ble_eq_true rfl⟩ rfl [0] rfl rfl (Nat.le_of_ble_eq_true rfl) dX12_sun_15 hF (fun M7 r8 hF => ?_)
    exact r_iret (pc := 18) dX12_sun_18 hF
theorem k_X12_sun (G : EG) (M : Mem) (a0 : Nat) (a1 : Int32) (a2 : Int32) (q : Mem × Int32) (h : F_X12_sun M a0 a1 a2 = some q) : Kt yX12_sun P_X12_sun M [(a0, 14)] [.ref a0, .int a1, .int a2] (RI G q) := Kt.of (by decide +kernel) rfl (Nat.le_of_ble_eq_true rfl) rfl (fun X hz => w_X12_sun M a0 a1 a2 h)
set_option maxHeartbeats 4000000 in
theorem w_X12_takenFrom_p21 {X : Option Cx} {G : EG} {res : Mem × Int64} : ∀ (M : Mem) (x0 : Nat), F_X12_takenFrom_p21 M x0 = some res → T X (RJ G res) P_X12_takenFrom M [(x0, 14)] [(0, .ref x0)] [] 21 := by
  intro M x0 hF
  unfold F_X12_takenFrom_p21 at hF
  refine r_aload_n (pc := 21) 0 dX12_takenFrom_21 rfl rfl ?_
  refine r_iconst (pc := 22) (w := -1) dX12_takenFrom_22 (by decide) ?_
  refine r_callV_J (pc := 23) (Py := P_X12_refuseLong) (n := 1) (As := [.int ((-1 : Int32))]) (fun q e => k_X12_refuseLong G _ x0 (-1 : Int32) q e) (c := 13) (Tb := TX12) (N := 58) rfl (by decide) (j0 := 0) rfl tw_1361 tw_1363 tw_43 tw_70 tw_1364 hd_X12_refuseLong ⟨Nat.le_of_ble_eq_true rfl, Nat.le_of_ble_eq_true rfl⟩ rfl [0] rfl rfl (Nat.le_of_ble_eq_true rfl) dX12_takenFrom_23 hF (fun M1 r2 hF => ?_)
  exact r_lret (pc := 26) dX12_takenFrom_26 hF
set_option maxHeartbeats 4000000 in
theorem w_X12_takenFrom {X : Option Cx} {G : EG} {res : Mem × Int64} (M : Mem) (a0 : Nat) (a1 : Int32) (a2 : Int32) (a3 : Int32) (hF : F_X12_takenFrom M a0 a1 a2 a3 = some res) : T X (RJ G res) P_X12_takenFrom M [(a0, 14)] [(0, .ref a0), (1, .int a1), (2, .int a2), (3, .int a3)] [] 0 := by
  unfold F_X12_takenFrom at hF
  refine r_aload_n (pc := 0) 0 dX12_takenFrom_0 rfl rfl ?_
  refine r_iload_n (pc := 1) 1 dX12_takenFrom_1 rfl rfl ?_
  refine r_callV_I (pc := 2) (Py := P_X12_isBore) (n := 1) (As := [.int a1]) (fun q e => k_X12_isBore G _ a0 a1 q e) (c := 13) (Tb := TX12) (N := 58) rfl (by decide) (j0 := 0) rfl tw_1338 tw_1340 tw_41 tw_70 tw_1341 hd_X12_isBore ⟨Nat.le_of_ble_eq_true rfl, Nat.le_of_ble_eq_true rfl⟩ rfl [0] rfl rfl (Nat.le_of_ble_eq_true rfl) dX12_takenFrom_2 hF (fun M1 r2 hF => ?_)
  refine r_if_eq (pc := 5) (tgt := 21) dX12_takenFrom_5 rfl hF (fun hF => ?_) (fun hF => ?_)
  · exact T.sub ((w_X12_takenFrom_p21) M1 a0 hF) [0] [0] rfl rfl
  · refine r_aload_n (pc := 8) 0 dX12_takenFrom_8 rfl rfl ?_
    refine r_iload_n (pc := 9) 2 dX12_takenFrom_9 rfl rfl ?_
    refine r_callV_I (pc := 10) (Py := P_X12_isBore) (n := 1) (As := [.int a2]) (fun q e => k_X12_isBore G _ a0 a2 q e) (c := 13) (Tb := TX12) (N := 58) rfl (by decide) (j0 := 0) rfl tw_1338 tw_1340 tw_41 tw_70 tw_1341 hd_X12_isBore ⟨Nat.le_of_ble_eq_true rfl, Nat.le_of_ble_eq_true rfl⟩ rfl [0] rfl rfl (Nat.le_of_ble_eq_true rfl) dX12_takenFrom_10 hF (fun M3 r4 hF => ?_)
    refine r_if_eq (pc := 13) (tgt := 21) dX12_takenFrom_13 rfl hF (fun hF => ?_) (fun hF => ?_)
    · exact T.sub ((w_X12_takenFrom_p21) M3 a0 hF) [0] [0] rfl rfl
    · refine r_iload_n (pc := 16) 1 dX12_takenFrom_16 rfl rfl ?_
      refine r_iload_n (pc := 17) 2 dX12_takenFrom_17 rfl rfl ?_
      refine r_icmp_ne (pc := 18) (tgt := 27) dX12_takenFrom_18 rfl hF (fun hF => ?_) (fun hF => ?_)
      · refine r_aload_n (pc := 27) 0 dX12_takenFrom_27 rfl rfl ?_
        refine r_iload_n (pc := 28) 3 dX12_takenFrom_28 rfl rfl ?_
        refine r_sipush (pc := 29) (w := 500) dX12_takenFrom_29 (by decide) ?_
        refine r_callV_I (pc := 32) (Py := P_X12_bars) (n := 2) (As := [.int a3, .int ((500 : Int32))]) (fun q e => k_X12_bars G _ a0 a3 (500 : Int32) q e) (c := 13) (Tb := TX12) (N := 58) rfl (by decide) (j0 := 0) rfl tw_1473 tw_1475 tw_51 tw_70 tw_1476 hd_X12_bars ⟨Nat.le_of_ble_eq_true rfl, Nat.le_of_ble_eq_true rfl⟩ rfl [0] rfl rfl (Nat.le_of_ble_eq_true rfl) dX12_takenFrom_32 hF (fun M5 r6 hF => ?_)
        refine r_if_eq (pc := 35) (tgt := 51) dX12_takenFrom_35 rfl hF (fun hF => ?_) (fun hF => ?_)
        · refine r_aload_n (pc := 51) 0 dX12_takenFrom_51 rfl rfl ?_
          refine r_iload_n (pc := 52) 1 dX12_takenFrom_52 rfl rfl ?_
          refine r_iload_n (pc := 53) 2 dX12_takenFrom_53 rfl rfl ?_
          refine r_iload_n (pc := 54) 3 dX12_takenFrom_54 rfl rfl ?_
          refine r_callV_J (pc := 55) (Py := P_X12_givenBy) (n := 3) (As := [.int a1, .int a2, .int a3]) (fun q e => k_X12_givenBy G _ a0 a1 a2 a3 q e) (c := 13) (Tb := TX12) (N := 58) rfl (by decide) (j0 := 0) rfl tw_1497 tw_1499 tw_54 tw_70 tw_1500 hd_X12_givenBy ⟨Nat.le_of_ble_eq_true rfl, Nat.le_of_ble_eq_true rfl⟩ rfl [0] rfl rfl (Nat.le_of_ble_eq_true rfl) dX12_takenFrom_55 hF (fun M7 r8 hF => ?_)
          refine r_aload_n (pc := 58) 0 dX12_takenFrom_58 rfl rfl ?_
          refine r_iload_n (pc := 59) 1 dX12_takenFrom_59 rfl rfl ?_
          refine r_iconst (pc := 60) (w := -1) dX12_takenFrom_60 (by decide) ?_
          refine r_iload_n (pc := 61) 3 dX12_takenFrom_61 rfl rfl ?_
          refine r_callV_J (pc := 62) (Py := P_X12_givenBy) (n := 3) (As := [.int a1, .int ((-1 : Int32)), .int a3]) (fun q e => k_X12_givenBy G _ a0 a1 (-1 : Int32) a3 q e) (c := 13) (Tb := TX12) (N := 58) rfl (by decide) (j0 := 0) rfl tw_1497 tw_1499 tw_54 tw_70 tw_1500 hd_X12_givenBy ⟨Nat.le_of_ble_eq_true rfl, Nat.le_of_ble_eq_true rfl⟩ rfl [0] rfl rfl (Nat.le_of_ble_eq_true rfl) dX12_takenFrom_62 hF (fun M9 r10 hF => ?_)
          refine r_lsub (pc := 65) dX12_takenFrom_65 ?_
          exact r_lret (pc := 66) dX12_takenFrom_66 hF
        · refine r_aload_n (pc := 38) 0 dX12_takenFrom_38 rfl rfl ?_
          refine r_aload_n (pc := 39) 0 dX12_takenFrom_39 rfl rfl ?_
          refine r_iload_n (pc := 40) 3 dX12_takenFrom_40 rfl rfl ?_
          refine r_sipush (pc := 41) (w := 500) dX12_takenFrom_41 (by decide) ?_
          refine r_callV_I (pc := 44) (Py := P_X12_bars) (n := 2) (As := [.int a3, .int ((500 : Int32))]) (fun q e => k_X12_bars G _ a0 a3 (500 : Int32) q e) (c := 13) (Tb := TX12) (N := 58) rfl (by decide) (j0 := 0) rfl tw_1473 tw_1475 tw_51 tw_70 tw_1476 hd_X12_bars ⟨Nat.le_of_ble_eq_true rfl, Nat.le_of_ble_eq_true rfl⟩ rfl [0] rfl rfl (Nat.le_of_ble_eq_true rfl) dX12_takenFrom_44 hF (fun M11 r12 hF => ?_)
          refine r_callV_J (pc := 47) (Py := P_X12_refuseLong) (n := 1) (As := [.int r12]) (fun q e => k_X12_refuseLong G _ a0 r12 q e) (c := 13) (Tb := TX12) (N := 58) rfl (by decide) (j0 := 0) rfl tw_1361 tw_1363 tw_43 tw_70 tw_1364 hd_X12_refuseLong ⟨Nat.le_of_ble_eq_true rfl, Nat.le_of_ble_eq_true rfl⟩ rfl [0] rfl rfl (Nat.le_of_ble_eq_true rfl) dX12_takenFrom_47 hF (fun M13 r14 hF => ?_)
          exact r_lret (pc := 50) dX12_takenFrom_50 hF
      · exact T.sub ((w_X12_takenFrom_p21) M3 a0 hF) [0] [0] rfl rfl
theorem k_X12_takenFrom (G : EG) (M : Mem) (a0 : Nat) (a1 : Int32) (a2 : Int32) (a3 : Int32) (q : Mem × Int64) (h : F_X12_takenFrom M a0 a1 a2 a3 = some q) : Kt yX12_takenFrom P_X12_takenFrom M [(a0, 14)] [.ref a0, .int a1, .int a2, .int a3] (RJ G q) := Kt.of (by decide +kernel) rfl (Nat.le_of_ble_eq_true rfl) rfl (fun X hz => w_X12_takenFrom M a0 a1 a2 a3 h)
set_option maxHeartbeats 4000000 in
theorem w_X12_tank_p9 {X : Option Cx} {G : EG} {res : Mem × Int32} : ∀ (M : Mem) (x0 : Nat), F_X12_tank_p9 M x0 = some res → T X (RI G res) P_X12_tank M [(x0, 14)] [(0, .ref x0)] [] 9 := by
  intro M x0 hF
  unfold F_X12_tank_p9 at hF
  refine r_aload_n (pc := 9) 0 dX12_tank_9 rfl rfl ?_
  refine r_bipush (pc := 10) (w := -4) dX12_tank_10 (by decide) ?_
  refine r_callV_I (pc := 12) (Py := P_X12_refuse) (n := 1) (As := [.int ((-4 : Int32))]) (fun q e => k_X12_refuse G _ x0 (-4 : Int32) q e) (c := 13) (Tb := TX12) (N := 58) rfl (by decide) (j0 := 0) rfl tw_1266 tw_1268 tw_28 tw_70 tw_1269 hd_X12_refuse ⟨Nat.le_of_ble_eq_true rfl, Nat.le_of_ble_eq_true rfl⟩ rfl [0] rfl rfl (Nat.le_of_ble_eq_true rfl) dX12_tank_12 hF (fun M1 r2 hF => ?_)
  exact r_iret (pc := 15) dX12_tank_15 hF
set_option maxHeartbeats 4000000 in
theorem w_X12_tank_p29 {X : Option Cx} {G : EG} {res : Mem × Int32} : ∀ (M : Mem) (x0 : Nat), F_X12_tank_p29 M x0 = some res → T X (RI G res) P_X12_tank M [(x0, 14)] [(0, .ref x0)] [] 29 := by
  intro M x0 hF
  unfold F_X12_tank_p29 at hF
  refine r_aload_n (pc := 29) 0 dX12_tank_29 rfl rfl ?_
  refine r_bipush (pc := 30) (w := -6) dX12_tank_30 (by decide) ?_
  refine r_callV_I (pc := 32) (Py := P_X12_refuse) (n := 1) (As := [.int ((-6 : Int32))]) (fun q e => k_X12_refuse G _ x0 (-6 : Int32) q e) (c := 13) (Tb := TX12) (N := 58) rfl (by decide) (j0 := 0) rfl tw_1266 tw_1268 tw_28 tw_70 tw_1269 hd_X12_refuse ⟨Nat.le_of_ble_eq_true rfl, Nat.le_of_ble_eq_true rfl⟩ rfl [0] rfl rfl (Nat.le_of_ble_eq_true rfl) dX12_tank_32 hF (fun M1 r2 hF => ?_)
  exact r_iret (pc := 35) dX12_tank_35 hF
set_option maxHeartbeats 4000000 in
theorem w_X12_tank {X : Option Cx} {G : EG} {res : Mem × Int32} (M : Mem) (a0 : Nat) (a1 : Int32) (a2 : Int32) (hF : F_X12_tank M a0 a1 a2 = some res) : T X (RI G res) P_X12_tank M [(a0, 14)] [(0, .ref a0), (1, .int a1), (2, .int a2)] [] 0 := by
  unfold F_X12_tank at hF
  refine r_iload_n (pc := 0) 1 dX12_tank_0 rfl rfl ?_
  refine r_if_lt (pc := 1) (tgt := 9) dX12_tank_1 rfl hF (fun hF => ?_) (fun hF => ?_)
  · exact T.sub ((w_X12_tank_p9) M a0 hF) [0] [0] rfl rfl
  · refine r_iload_n (pc := 4) 2 dX12_tank_4 rfl rfl ?_
    refine r_iconst (pc := 5) (w := 1) dX12_tank_5 (by decide) ?_
    refine r_icmp_ge (pc := 6) (tgt := 16) dX12_tank_6 rfl hF (fun hF => ?_) (fun hF => ?_)
    · refine r_iload_n (pc := 16) 1 dX12_tank_16 rfl rfl ?_
      refine r_bipush (pc := 17) (w := 9) dX12_tank_17 (by decide) ?_
      refine r_icmp_gt (pc := 19) (tgt := 29) dX12_tank_19 rfl hF (fun hF => ?_) (fun hF => ?_)
      · exact T.sub ((w_X12_tank_p29) M a0 hF) [0] [0] rfl rfl
      · refine r_iload_n (pc := 22) 2 dX12_tank_22 rfl rfl ?_
        refine r_sipush (pc := 23) (w := 9999) dX12_tank_23 (by decide) ?_
        refine r_icmp_le (pc := 26) (tgt := 36) dX12_tank_26 rfl hF (fun hF => ?_) (fun hF => ?_)
        · refine r_aload_n (pc := 36) 0 dX12_tank_36 rfl rfl ?_
          refine gf_X12_324 (pc := 37) (j := 0) rfl dX12_tank_37 ?_
          refine r_gI (pc := 40) hF (fun v1 hF => ?_)
          refine r_istore_n (pc := 40) (L1 := [(3, .int v1), (0, .ref a0), (1, .int a1), (2, .int a2)]) dX12_tank_40 rfl (by decide) rfl ?_
          refine r_aload_n (pc := 41) 1 dX12_tank_41 rfl rfl ?_
          refine r_iload_n (pc := 42) 2 dX12_tank_42 rfl rfl ?_
          refine pf_X12_324 (pc := 43) (j := 0) rfl dX12_tank_43 hF (fun M2 hF => ?_)
          refine r_aload_n (pc := 46) 1 dX12_tank_46 rfl rfl ?_
          refine r_iload_n (pc := 47) 3 dX12_tank_47 rfl rfl ?_
          refine pf_X12_93 (pc := 48) (j := 0) rfl dX12_tank_48 hF (fun M3 hF => ?_)
          refine r_iload_n (pc := 51) 0 dX12_tank_51 rfl rfl ?_
          exact r_iret (pc := 52) dX12_tank_52 hF
        · exact T.sub ((w_X12_tank_p29) M a0 hF) [0] [0] rfl rfl
    · exact T.sub ((w_X12_tank_p9) M a0 hF) [0] [0] rfl rfl
theorem k_X12_tank (G : EG) (M : Mem) (a0 : Nat) (a1 : Int32) (a2 : Int32) (q : Mem × Int32) (h : F_X12_tank M a0 a1 a2 = some q) : Kt yX12_tank P_X12_tank M [(a0, 14)] [.ref a0, .int a1, .int a2] (RI G q) := Kt.of (by decide +kernel) rfl (Nat.le_of_ble_eq_true rfl) rfl (fun X hz => w_X12_tank M a0 a1 a2 h)
set_option maxHeartbeats 4000000 in
theorem w_X12_told_p60 {X : Option Cx} {G : EG} {res : Mem × Int64} {k17 : Mem → Nat → Int32 → Int64 → Int32 → Int32 → Option (Mem × Int64)} (hk17 : ∀ (M : Mem) (x0 : Nat) (x1 : Int32) (x2 : Int64) (x4 : Int32) (x5 : Int32), k17 M x0 x1 x2 x4 x5 = some res → T X (RJ G res) P_X12_told M [(x0, 14)] [(0, .ref x0), (1, .int x1), (2, .long x2), (4, .int x4), (5, .int x5)] [] 17) : ∀ (M : Mem) (x0 : Nat) (x1 : Int32) (x4 : Int32) (x5 : Int32) (y0 : Int64) (y1 : Int64), F_X12_told_p60 k17 M x0 x1 x4 x5 y0 y1 = some res → T X (RJ G res) P_X12_told M [(x0, 14)] [(0, .ref x0), (1, .int x1), (4, .int x4), (5, .int x5)] [.long y1, .long y0] 60 := by
  intro M x0 x1 x4 x5 y0 y1 hF
  unfold F_X12_told_p60 at hF
  refine r_ladd (pc := 60) dX12_told_60 ?_
  refine r_gJ (pc := 61) hF (fun v1 hF => ?_)
  refine r_lstore_n (pc := 61) (L1 := [(2, .long v1), (0, .ref x0), (1, .int x1), (4, .int x4), (5, .int x5)]) dX12_told_61 rfl (by decide) rfl ?_
  obtain ⟨v2, e9, hF⟩ := bnd_e hF
  refine r_iinc (pc := 62) (w := v2) (k := 4) (L1 := [(5, .int v2), (2, .long v1), (0, .ref x0), (1, .int x1), (4, .int x4)]) dX12_told_62 rfl (by rw [e9]; rfl) (by decide) rfl ?_
  clear e9
  refine r_goto (pc := 65) (tgt := 17) dX12_told_65 rfl ?_
  exact T.sub (hk17 M x0 x1 v1 x4 v2 hF) [0] [2, 3, 1, 4, 0] rfl rfl
set_option maxHeartbeats 4000000 in
theorem w_X12_told_p17 {X : Option Cx} {G : EG} {res : Mem × Int64} {k68 : Mem → Nat → Int32 → Int64 → Int32 → Option (Mem × Int64)} (hk68 : ∀ (M : Mem) (x0 : Nat) (x1 : Int32) (x2 : Int64) (x4 : Int32), k68 M x0 x1 x2 x4 = some res → T X (RJ G res) P_X12_told M [(x0, 14)] [(0, .ref x0), (1, .int x1), (2, .long x2), (4, .int x4)] [] 68) : ∀ (n : Nat) (M : Mem) (x0 : Nat) (x1 : Int32) (x2 : Int64) (x4 : Int32) (x5 : Int32), F_X12_told_p17 k68 n M x0 x1 x2 x4 x5 = some res → T X (RJ G res) P_X12_told M [(x0, 14)] [(0, .ref x0), (1, .int x1), (2, .long x2), (4, .int x4), (5, .int x5)] [] 17 := by
  intro n
  induction n with
  | zero =>
    intro M x0 x1 x2 x4 x5 hF
    cases hF
  | succ n ih =>
    intro M x0 x1 x2 x4 x5 hF
    unfold F_X12_told_p17 at hF
    refine r_iload (pc := 17) 4 dX12_told_17 rfl ?_
    refine r_aload_n (pc := 19) 0 dX12_told_19 rfl rfl ?_
    refine gf_X12_19 (pc := 20) (j := 0) rfl dX12_told_20 ?_
    refine r_lr (by decide) hF (fun b1 hF => ?_)
    refine r_iload (pc := 23) 3 dX12_told_23 rfl ?_
    refine r_iald (pc := 25) (j := 0) rfl dX12_told_25 hF (fun hF => ?_)
    refine r_icmp_ge (pc := 26) (tgt := 68) dX12_told_26 rfl hF (fun hF => ?_) (fun hF => ?_)
    · exact T.sub (hk68 M x0 x1 x2 x4 hF) [1] [0, 1, 2, 3] rfl rfl
    · refine r_lload_n (pc := 29) 2 dX12_told_29 rfl rfl ?_
      refine r_iload_n (pc := 30) 1 dX12_told_30 rfl rfl ?_
      refine r_bipush (pc := 31) (w := 9) dX12_told_31 (by decide) ?_
      refine r_icmp_ne (pc := 33) (tgt := 52) dX12_told_33 rfl hF (fun hF => ?_) (fun hF => ?_)
      · refine r_aload_n (pc := 52) 0 dX12_told_52 rfl rfl ?_
        refine r_iload (pc := 53) 3 dX12_told_53 rfl ?_
        refine r_iload (pc := 55) 4 dX12_told_55 rfl ?_
        refine r_callV_J (pc := 57) (Py := P_X12_atFirst) (n := 2) (As := [.int x4, .int x5]) (fun q e => k_X12_atFirst G _ x0 x4 x5 q e) (c := 13) (Tb := TX12) (N := 58) rfl (by decide) (j0 := 1) rfl tw_1322 tw_1324 tw_39 tw_70 tw_1325 hd_X12_atFirst ⟨Nat.le_of_ble_eq_true rfl, Nat.le_of_ble_eq_true rfl⟩ rfl [1] rfl rfl (Nat.le_of_ble_eq_true rfl) dX12_told_57 hF (fun M2 r3 hF => ?_)
        exact T.sub ((w_X12_told_p60 ih) M2 x0 x1 x4 x5 x2 r3 hF) [1] [0, 1, 3, 4] rfl rfl
      · refine r_aload_n (pc := 36) 0 dX12_told_36 rfl rfl ?_
        refine gf_X12_41 (pc := 37) (j := 1) rfl dX12_told_37 ?_
        refine r_lr (by decide) hF (fun b4 hF => ?_)
        refine r_bipush (pc := 40) (w := 8) dX12_told_40 (by decide) ?_
        refine r_iload (pc := 42) 3 dX12_told_42 rfl ?_
        refine r_imul (pc := 44) dX12_told_44 ?_
        refine r_iload (pc := 45) 4 dX12_told_45 rfl ?_
        refine r_iadd (pc := 47) dX12_told_47 ?_
        refine r_lald (pc := 48) (j := 0) rfl dX12_told_48 hF (fun hF => ?_)
        refine r_goto (pc := 49) (tgt := 60) dX12_told_49 rfl ?_
        exact T.sub ((w_X12_told_p60 ih) M x0 x1 x4 x5 x2 (gB M b4 (ixn (((8 : Int32) * x4) + x5))) hF) [2] [0, 1, 3, 4] rfl rfl
set_option maxHeartbeats 4000000 in
theorem w_X12_told_p68 {X : Option Cx} {G : EG} {res : Mem × Int64} {k5 : Mem → Nat → Int32 → Int64 → Int32 → Option (Mem × Int64)} (hk5 : ∀ (M : Mem) (x0 : Nat) (x1 : Int32) (x2 : Int64) (x4 : Int32), k5 M x0 x1 x2 x4 = some res → T X (RJ G res) P_X12_told M [(x0, 14)] [(0, .ref x0), (1, .int x1), (2, .long x2), (4, .int x4)] [] 5) : ∀ (M : Mem) (x0 : Nat) (x1 : Int32) (x2 : Int64) (x4 : Int32), F_X12_told_p68 k5 M x0 x1 x2 x4 = some res → T X (RJ G res) P_X12_told M [(x0, 14)] [(0, .ref x0), (1, .int x1), (2, .long x2), (4, .int x4)] [] 68 := by
  intro M x0 x1 x2 x4 hF
  unfold F_X12_told_p68 at hF
  obtain ⟨v1, e9, hF⟩ := bnd_e hF
  refine r_iinc (pc := 68) (w := v1) (k := 3) (L1 := [(4, .int v1), (0, .ref x0), (1, .int x1), (2, .long x2)]) dX12_told_68 rfl (by rw [e9]; rfl) (by decide) rfl ?_
  clear e9
  refine r_goto (pc := 71) (tgt := 5) dX12_told_71 rfl ?_
  exact T.sub (hk5 M x0 x1 x2 v1 hF) [0] [1, 2, 3, 0] rfl rfl
set_option maxHeartbeats 4000000 in
theorem w_X12_told_p5 {X : Option Cx} {G : EG} {res : Mem × Int64} {k74 : Mem → Nat → Int32 → Int64 → Option (Mem × Int64)} (hk74 : ∀ (M : Mem) (x0 : Nat) (x1 : Int32) (x2 : Int64), k74 M x0 x1 x2 = some res → T X (RJ G res) P_X12_told M [(x0, 14)] [(0, .ref x0), (1, .int x1), (2, .long x2)] [] 74) : ∀ (n : Nat) (M : Mem) (x0 : Nat) (x1 : Int32) (x2 : Int64) (x4 : Int32), F_X12_told_p5 k74 n M x0 x1 x2 x4 = some res → T X (RJ G res) P_X12_told M [(x0, 14)] [(0, .ref x0), (1, .int x1), (2, .long x2), (4, .int x4)] [] 5 := by
  intro n
  induction n with
  | zero =>
    intro M x0 x1 x2 x4 hF
    cases hF
  | succ n ih =>
    intro M x0 x1 x2 x4 hF
    unfold F_X12_told_p5 at hF
    refine r_iload (pc := 5) 3 dX12_told_5 rfl ?_
    refine r_aload_n (pc := 7) 0 dX12_told_7 rfl rfl ?_
    refine gf_X12_154 (pc := 8) (j := 0) rfl dX12_told_8 ?_
    refine r_icmp_ge (pc := 11) (tgt := 74) dX12_told_11 rfl hF (fun hF => ?_) (fun hF => ?_)
    · exact T.sub (hk74 M x0 x1 x2 hF) [0] [0, 1, 2] rfl rfl
    · refine r_iconst (pc := 14) (w := 0) dX12_told_14 (by decide) ?_
      refine r_istore (pc := 15) (L1 := [(5, .int ((0 : Int32))), (0, .ref x0), (1, .int x1), (2, .long x2), (4, .int x4)]) dX12_told_15 (by decide) rfl ?_
      exact T.sub ((w_X12_told_p17 (w_X12_told_p68 ih) FU) M x0 x1 x2 x4 (0 : Int32) hF) [0] [1, 2, 3, 4, 0] rfl rfl
set_option maxHeartbeats 4000000 in
theorem w_X12_told_p119 {X : Option Cx} {G : EG} {res : Mem × Int64} : ∀ (M : Mem) (y0 : Int64), F_X12_told_p119 M y0 = some res → T X (RJ G res) P_X12_told M [] [] [.long y0] 119 := by
  intro M y0 hF
  unfold F_X12_told_p119 at hF
  exact r_lret (pc := 119) dX12_told_119 hF
set_option maxHeartbeats 4000000 in
theorem w_X12_told_p74 {X : Option Cx} {G : EG} {res : Mem × Int64} : ∀ (M : Mem) (x0 : Nat) (x1 : Int32) (x2 : Int64), F_X12_told_p74 M x0 x1 x2 = some res → T X (RJ G res) P_X12_told M [(x0, 14)] [(0, .ref x0), (1, .int x1), (2, .long x2)] [] 74 := by
  intro M x0 x1 x2 hF
  unfold F_X12_told_p74 at hF
  refine r_iload_n (pc := 74) 1 dX12_told_74 rfl rfl ?_
  refine r_i2l (pc := 75) dX12_told_75 ?_
  refine r_lconst (pc := 76) (w := 0) dX12_told_76 (by decide) ?_
  refine r_ldc2 (pc := 77) (w := 8) tw_1462 dX12_told_77 ?_
  refine r_callS_I (pc := 80) (Py := P_X12_in) (n := 3) (As := [.long (x1.toInt64), .long ((0 : Int64)), .long ((8 : Int64))]) (fun q e => k_X12_in G _ (x1.toInt64) (0 : Int64) (8 : Int64) q e) tw_1342 tw_1343 tw_70 tw_1344 hd_X12_in ⟨Nat.le_of_ble_eq_true rfl, Nat.le_of_ble_eq_true rfl⟩ rfl [] rfl rfl (Nat.le_of_ble_eq_true rfl) dX12_told_80 hF (fun M1 r2 hF => ?_)
  refine r_if_eq (pc := 83) (tgt := 95) dX12_told_83 rfl hF (fun hF => ?_) (fun hF => ?_)
  · refine r_iload_n (pc := 95) 1 dX12_told_95 rfl rfl ?_
    refine r_i2l (pc := 96) dX12_told_96 ?_
    refine r_ldc2 (pc := 97) (w := 9) tw_1463 dX12_told_97 ?_
    refine r_ldc2 (pc := 100) (w := 10) tw_1464 dX12_told_100 ?_
    refine r_callS_I (pc := 103) (Py := P_X12_in) (n := 3) (As := [.long (x1.toInt64), .long ((9 : Int64)), .long ((10 : Int64))]) (fun q e => k_X12_in G _ (x1.toInt64) (9 : Int64) (10 : Int64) q e) tw_1342 tw_1343 tw_70 tw_1344 hd_X12_in ⟨Nat.le_of_ble_eq_true rfl, Nat.le_of_ble_eq_true rfl⟩ rfl [] rfl rfl (Nat.le_of_ble_eq_true rfl) dX12_told_103 hF (fun M3 r4 hF => ?_)
    refine r_if_eq (pc := 106) (tgt := 113) dX12_told_106 rfl hF (fun hF => ?_) (fun hF => ?_)
    · refine r_aload_n (pc := 113) 0 dX12_told_113 rfl rfl ?_
      refine r_bipush (pc := 114) (w := -2) dX12_told_114 (by decide) ?_
      refine r_callV_J (pc := 116) (Py := P_X12_refuseLong) (n := 1) (As := [.int ((-2 : Int32))]) (fun q e => k_X12_refuseLong G _ x0 (-2 : Int32) q e) (c := 13) (Tb := TX12) (N := 58) rfl (by decide) (j0 := 0) rfl tw_1361 tw_1363 tw_43 tw_70 tw_1364 hd_X12_refuseLong ⟨Nat.le_of_ble_eq_true rfl, Nat.le_of_ble_eq_true rfl⟩ rfl [0] rfl rfl (Nat.le_of_ble_eq_true rfl) dX12_told_116 hF (fun M5 r6 hF => ?_)
      exact T.sub ((w_X12_told_p119) M5 r6 hF) [] [] rfl rfl
    · refine r_lload_n (pc := 109) 2 dX12_told_109 rfl rfl ?_
      refine r_goto (pc := 110) (tgt := 119) dX12_told_110 rfl ?_
      exact T.sub ((w_X12_told_p119) M3 x2 hF) [] [] rfl rfl
  · refine r_aload_n (pc := 86) 0 dX12_told_86 rfl rfl ?_
    refine gf_X12_48 (pc := 87) (j := 0) rfl dX12_told_87 ?_
    refine r_lr (by decide) hF (fun b7 hF => ?_)
    refine r_iload_n (pc := 90) 1 dX12_told_90 rfl rfl ?_
    refine r_lald (pc := 91) (j := 0) rfl dX12_told_91 hF (fun hF => ?_)
    refine r_goto (pc := 92) (tgt := 119) dX12_told_92 rfl ?_
    exact T.sub ((w_X12_told_p119) M1 (gB M1 b7 (ixn x1)) hF) [] [] rfl rfl
set_option maxHeartbeats 4000000 in
theorem w_X12_told {X : Option Cx} {G : EG} {res : Mem × Int64} (M : Mem) (a0 : Nat) (a1 : Int32) (hF : F_X12_told M a0 a1 = some res) : T X (RJ G res) P_X12_told M [(a0, 14)] [(0, .ref a0), (1, .int a1)] [] 0 := by
  unfold F_X12_told at hF
  refine r_lconst (pc := 0) (w := 0) dX12_told_0 (by decide) ?_
  refine r_lstore_n (pc := 1) (L1 := [(2, .long ((0 : Int64))), (0, .ref a0), (1, .int a1)]) dX12_told_1 rfl (by decide) rfl ?_
  refine r_iconst (pc := 2) (w := 0) dX12_told_2 (by decide) ?_
  refine r_istore (pc := 3) (L1 := [(4, .int ((0 : Int32))), (2, .long ((0 : Int64))), (0, .ref a0), (1, .int a1)]) dX12_told_3 (by decide) rfl ?_
  exact T.sub ((w_X12_told_p5 (w_X12_told_p74) FU) M a0 a1 (0 : Int64) (0 : Int32) hF) [0] [2, 3, 1, 0] rfl rfl
theorem k_X12_told (G : EG) (M : Mem) (a0 : Nat) (a1 : Int32) (q : Mem × Int64) (h : F_X12_told M a0 a1 = some q) : Kt yX12_told P_X12_told M [(a0, 14)] [.ref a0, .int a1] (RJ G q) := Kt.of (by decide +kernel) rfl (Nat.le_of_ble_eq_true rfl) rfl (fun X hz => w_X12_told M a0 a1 h)
set_option maxHeartbeats 4000000 in
theorem w_X12_untable {X : Option Cx} {G : EG} {res : Mem × Int32} (M : Mem) (a0 : Nat) (hF : F_X12_untable M a0 = some res) : T X (RI G res) P_X12_untable M [(a0, 14)] [(0, .ref a0)] [] 0 := by
  unfold F_X12_untable at hF
  refine r_aload_n (pc := 0) 0 dX12_untable_0 rfl rfl ?_
  refine gf_X12_208 (pc := 1) (j := 0) rfl dX12_untable_1 ?_
  refine r_gI (pc := 4) hF (fun v1 hF => ?_)
  refine r_istore_n (pc := 4) (L1 := [(1, .int v1), (0, .ref a0)]) dX12_untable_4 rfl (by decide) rfl ?_
  refine r_aload_n (pc := 5) 1 dX12_untable_5 rfl rfl ?_
  refine r_iconst (pc := 6) (w := 0) dX12_untable_6 (by decide) ?_
  refine pf_X12_208 (pc := 7) (j := 0) rfl dX12_untable_7 hF (fun M2 hF => ?_)
  refine r_iload_n (pc := 10) 0 dX12_untable_10 rfl rfl ?_
  exact r_iret (pc := 11) dX12_untable_11 hF
theorem k_X12_untable (G : EG) (M : Mem) (a0 : Nat) (q : Mem × Int32) (h : F_X12_untable M a0 = some q) : Kt yX12_untable P_X12_untable M [(a0, 14)] [.ref a0] (RI G q) := Kt.of (by decide +kernel) rfl (Nat.le_of_ble_eq_true rfl) rfl (fun X hz => w_X12_untable M a0 h)
set_option maxHeartbeats 4000000 in
theorem w_X12_warmth_p23 {X : Option Cx} {G : EG} {res : Mem × Int64} : ∀ (M : Mem) (y0 : Int64), F_X12_warmth_p23 M y0 = some res → T X (RJ G res) P_X12_warmth M [] [] [.long y0] 23 := by
  intro M y0 hF
  unfold F_X12_warmth_p23 at hF
  exact r_lret (pc := 23) dX12_warmth_23 hF
set_option maxHeartbeats 4000000 in
theorem w_X12_warmth {X : Option Cx} {G : EG} {res : Mem × Int64} (M : Mem) (a0 : Nat) (a1 : Int32) (a2 : Int32) (hF : F_X12_warmth M a0 a1 a2 = some res) : T X (RJ G res) P_X12_warmth M [(a0, 14)] [(0, .ref a0), (1, .int a1), (2, .int a2)] [] 0 := by
  unfold F_X12_warmth at hF
  refine r_aload_n (pc := 0) 0 dX12_warmth_0 rfl rfl ?_
  refine r_iload_n (pc := 1) 1 dX12_warmth_1 rfl rfl ?_
  refine r_iload_n (pc := 2) 2 dX12_warmth_2 rfl rfl ?_
  refine r_callV_I (pc := 3) (Py := P_X12_isRing) (n := 2) (As := [.int a1, .int a2]) (fun q e => k_X12_isRing G _ a0 a1 a2 q e) (c := 13) (Tb := TX12) (N := 58) rfl (by decide) (j0 := 0) rfl tw_1357 tw_1359 tw_42 tw_70 tw_1360 hd_X12_isRing ⟨Nat.le_of_ble_eq_true rfl, Nat.le_of_ble_eq_true rfl⟩ rfl [0] rfl rfl (Nat.le_of_ble_eq_true rfl) dX12_warmth_3 hF (fun M1 r2 hF => ?_)
  refine r_if_eq (pc := 6) (tgt := 18) dX12_warmth_6 rfl hF (fun hF => ?_) (fun hF => ?_)
  · refine r_aload_n (pc := 18) 0 dX12_warmth_18 rfl rfl ?_
    refine r_iconst (pc := 19) (w := -1) dX12_warmth_19 (by decide) ?_
    refine r_callV_J (pc := 20) (Py := P_X12_refuseLong) (n := 1) (As := [.int ((-1 : Int32))]) (fun q e => k_X12_refuseLong G _ a0 (-1 : Int32) q e) (c := 13) (Tb := TX12) (N := 58) rfl (by decide) (j0 := 0) rfl tw_1361 tw_1363 tw_43 tw_70 tw_1364 hd_X12_refuseLong ⟨Nat.le_of_ble_eq_true rfl, Nat.le_of_ble_eq_true rfl⟩ rfl [0] rfl rfl (Nat.le_of_ble_eq_true rfl) dX12_warmth_20 hF (fun M3 r4 hF => ?_)
    exact T.sub ((w_X12_warmth_p23) M3 r4 hF) [] [] rfl rfl
  · refine r_aload_n (pc := 9) 0 dX12_warmth_9 rfl rfl ?_
    refine r_iload_n (pc := 10) 1 dX12_warmth_10 rfl rfl ?_
    refine r_iload_n (pc := 11) 2 dX12_warmth_11 rfl rfl ?_
    refine r_callV_J (pc := 12) (Py := P_X12_warmthOf) (n := 2) (As := [.int a1, .int a2]) (fun q e => k_X12_warmthOf G _ a0 a1 a2 q e) (c := 13) (Tb := TX12) (N := 58) rfl (by decide) (j0 := 0) rfl tw_1291 tw_1293 tw_34 tw_70 tw_1294 hd_X12_warmthOf ⟨Nat.le_of_ble_eq_true rfl, Nat.le_of_ble_eq_true rfl⟩ rfl [0] rfl rfl (Nat.le_of_ble_eq_true rfl) dX12_warmth_12 hF (fun M5 r6 hF => ?_)
    refine r_goto (pc := 15) (tgt := 23) dX12_warmth_15 rfl ?_
    exact T.sub ((w_X12_warmth_p23) M5 r6 hF) [] [] rfl rfl
theorem k_X12_warmth (G : EG) (M : Mem) (a0 : Nat) (a1 : Int32) (a2 : Int32) (q : Mem × Int64) (h : F_X12_warmth M a0 a1 a2 = some q) : Kt yX12_warmth P_X12_warmth M [(a0, 14)] [.ref a0, .int a1, .int a2] (RJ G q) := Kt.of (by decide +kernel) rfl (Nat.le_of_ble_eq_true rfl) rfl (fun X hz => w_X12_warmth M a0 a1 a2 h)
set_option maxHeartbeats 4000000 in
theorem w_X12_wrong_p30 {X : Option Cx} {G : EG} {res : Mem × Int64} : ∀ (M : Mem) (y0 : Int64), F_X12_wrong_p30 M y0 = some res → T X (RJ G res) P_X12_wrong M [] [] [.long y0] 30 := by
  intro M y0 hF
  unfold F_X12_wrong_p30 at hF
  exact r_lret (pc := 30) dX12_wrong_30 hF
set_option maxHeartbeats 4000000 in
theorem w_X12_wrong {X : Option Cx} {G : EG} {res : Mem × Int64} (M : Mem) (a0 : Nat) (a1 : Int32) (hF : F_X12_wrong M a0 a1 = some res) : T X (RJ G res) P_X12_wrong M [(a0, 14)] [(0, .ref a0), (1, .int a1)] [] 0 := by
  unfold F_X12_wrong at hF
  refine r_iload_n (pc := 0) 1 dX12_wrong_0 rfl rfl ?_
  refine r_i2l (pc := 1) dX12_wrong_1 ?_
  refine r_lconst (pc := 2) (w := 0) dX12_wrong_2 (by decide) ?_
  refine r_aload_n (pc := 3) 0 dX12_wrong_3 rfl rfl ?_
  refine gf_X12_342 (pc := 4) (j := 0) rfl dX12_wrong_4 ?_
  refine r_iconst (pc := 7) (w := 1) dX12_wrong_7 (by decide) ?_
  refine r_isub (pc := 8) dX12_wrong_8 ?_
  refine r_i2l (pc := 9) dX12_wrong_9 ?_
  refine r_callS_I (pc := 10) (Py := P_X12_in) (n := 3) (As := [.long (a1.toInt64), .long ((0 : Int64)), .long (((gI M 1336 a0) - (1 : Int32)).toInt64)]) (fun q e => k_X12_in G _ (a1.toInt64) (0 : Int64) (((gI M 1336 a0) - (1 : Int32)).toInt64) q e) tw_1342 tw_1343 tw_70 tw_1344 hd_X12_in ⟨Nat.le_of_ble_eq_true rfl, Nat.le_of_ble_eq_true rfl⟩ rfl [] rfl rfl (Nat.le_of_ble_eq_true rfl) dX12_wrong_10 hF (fun M1 r2 hF => ?_)
  refine r_if_eq (pc := 13) (tgt := 25) dX12_wrong_13 rfl hF (fun hF => ?_) (fun hF => ?_)
  · refine r_aload_n (pc := 25) 0 dX12_wrong_25 rfl rfl ?_
    refine r_iconst (pc := 26) (w := -1) dX12_wrong_26 (by decide) ?_
    refine r_callV_J (pc := 27) (Py := P_X12_refuseLong) (n := 1) (As := [.int ((-1 : Int32))]) (fun q e => k_X12_refuseLong G _ a0 (-1 : Int32) q e) (c := 13) (Tb := TX12) (N := 58) rfl (by decide) (j0 := 0) rfl tw_1361 tw_1363 tw_43 tw_70 tw_1364 hd_X12_refuseLong ⟨Nat.le_of_ble_eq_true rfl, Nat.le_of_ble_eq_true rfl⟩ rfl [0] rfl rfl (Nat.le_of_ble_eq_true rfl) dX12_wrong_27 hF (fun M3 r4 hF => ?_)
    exact T.sub ((w_X12_wrong_p30) M3 r4 hF) [] [] rfl rfl
  · refine r_aload_n (pc := 16) 0 dX12_wrong_16 rfl rfl ?_
    refine gf_X12_103 (pc := 17) (j := 0) rfl dX12_wrong_17 ?_
    refine r_lr (by decide) hF (fun b5 hF => ?_)
    refine r_iload_n (pc := 20) 1 dX12_wrong_20 rfl rfl ?_
    refine r_lald (pc := 21) (j := 0) rfl dX12_wrong_21 hF (fun hF => ?_)
    refine r_goto (pc := 22) (tgt := 30) dX12_wrong_22 rfl ?_
    exact T.sub ((w_X12_wrong_p30) M1 (gB M1 b5 (ixn a1)) hF) [] [] rfl rfl
theorem k_X12_wrong (G : EG) (M : Mem) (a0 : Nat) (a1 : Int32) (q : Mem × Int64) (h : F_X12_wrong M a0 a1 = some q) : Kt yX12_wrong P_X12_wrong M [(a0, 14)] [.ref a0, .int a1] (RJ G q) := Kt.of (by decide +kernel) rfl (Nat.le_of_ble_eq_true rfl) rfl (fun X hz => w_X12_wrong M a0 a1 h)
