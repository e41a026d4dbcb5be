set_option maxHeartbeats 4000000 in
theorem w_J0_coder_7d493_p14 {X : Option Cx} {G : EG} {res : Mem × Int32} : ∀ (M : Mem) (y0 : Int32), F_J0_coder_7d493_p14 M y0 = some res → T X (RI G res) P_J0_coder_7d493 M [] [] [.int y0] 14 := by
  intro M y0 hF
  unfold F_J0_coder_7d493_p14 at hF
  exact r_bret (pc := 14) dJ0_coder_7d493_14 hF
set_option maxHeartbeats 4000000 in
theorem w_J0_coder_7d493 {X : Option Cx} {G : EG} {res : Mem × Int32} (M : Mem) (a0 : Nat) (h_a0 : a0 < 7) (hF : F_J0_coder_7d493 M a0 = some res) : T X (RI G res) P_J0_coder_7d493 M [] [(0, .ref (G.1 a0))] [] 0 := by
  unfold F_J0_coder_7d493 at hF
  refine r_gstC (pc := 0) tw_805 dJ0_coder_7d493_0 ?_
  refine r_if_eq (pc := 3) (tgt := 13) dJ0_coder_7d493_3 rfl hF (fun hF => ?_) (fun hF => ?_)
  · refine r_iconst (pc := 13) (w := 1) dJ0_coder_7d493_13 (by decide) ?_
    exact T.sub ((w_J0_coder_7d493_p14) M (1 : Int32) hF) [] [] rfl rfl
  · refine r_aload_n (pc := 6) 0 dJ0_coder_7d493_6 rfl rfl ?_
    refine r_scod (pc := 7) (i := a0) h_a0 tw_1569 dJ0_coder_7d493_7 ?_
    refine r_goto (pc := 10) (tgt := 14) dJ0_coder_7d493_10 rfl ?_
    exact T.sub ((w_J0_coder_7d493_p14) M (0 : Int32) hF) [] [] rfl rfl
theorem k_J0_coder_7d493 (G : EG) (M : Mem) (a0 : Nat) (h_a0 : a0 < 7) (q : Mem × Int32) (h : F_J0_coder_7d493 M a0 = some q) : Kt yJ0_coder_7d493 P_J0_coder_7d493 M [] [.ref (G.1 a0)] (RI G q) := Kt.of (by decide +kernel) rfl (Nat.le_of_ble_eq_true rfl) rfl (fun X hz => w_J0_coder_7d493 M a0 h_a0 h)
set_option maxHeartbeats 4000000 in
theorem w_J0_isLatin1_aae02_p18 {X : Option Cx} {G : EG} {res : Mem × Int32} : ∀ (M : Mem) (y0 : Int32), F_J0_isLatin1_aae02_p18 M y0 = some res → T X (RI G res) P_J0_isLatin1_aae02 M [] [] [.int y0] 18 := by
  intro M y0 hF
  unfold F_J0_isLatin1_aae02_p18 at hF
  exact r_zret (pc := 18) dJ0_isLatin1_aae02_18 hF
set_option maxHeartbeats 4000000 in
theorem w_J0_isLatin1_aae02_p17 {X : Option Cx} {G : EG} {res : Mem × Int32} : ∀ (M : Mem), F_J0_isLatin1_aae02_p17 M = some res → T X (RI G res) P_J0_isLatin1_aae02 M [] [] [] 17 := by
  intro M hF
  unfold F_J0_isLatin1_aae02_p17 at hF
  refine r_iconst (pc := 17) (w := 0) dJ0_isLatin1_aae02_17 (by decide) ?_
  exact T.sub ((w_J0_isLatin1_aae02_p18) M (0 : Int32) hF) [] [] rfl rfl
set_option maxHeartbeats 4000000 in
theorem w_J0_isLatin1_aae02 {X : Option Cx} {G : EG} {res : Mem × Int32} (M : Mem) (a0 : Nat) (h_a0 : a0 < 7) (hF : F_J0_isLatin1_aae02 M a0 = some res) : T X (RI G res) P_J0_isLatin1_aae02 M [] [(0, .ref (G.1 a0))] [] 0 := by
  unfold F_J0_isLatin1_aae02 at hF
  refine r_gstC (pc := 0) tw_805 dJ0_isLatin1_aae02_0 ?_
  refine r_if_eq (pc := 3) (tgt := 17) dJ0_isLatin1_aae02_3 rfl hF (fun hF => ?_) (fun hF => ?_)
  · exact T.sub ((w_J0_isLatin1_aae02_p17) M hF) [] [] rfl rfl
  · refine r_aload_n (pc := 6) 0 dJ0_isLatin1_aae02_6 rfl rfl ?_
    refine r_scod (pc := 7) (i := a0) h_a0 tw_1569 dJ0_isLatin1_aae02_7 ?_
    refine r_if_ne (pc := 10) (tgt := 17) dJ0_isLatin1_aae02_10 rfl hF (fun hF => ?_) (fun hF => ?_)
    · exact T.sub ((w_J0_isLatin1_aae02_p17) M hF) [] [] rfl rfl
    · refine r_iconst (pc := 13) (w := 1) dJ0_isLatin1_aae02_13 (by decide) ?_
      refine r_goto (pc := 14) (tgt := 18) dJ0_isLatin1_aae02_14 rfl ?_
      exact T.sub ((w_J0_isLatin1_aae02_p18) M (1 : Int32) hF) [] [] rfl rfl
theorem k_J0_isLatin1_aae02 (G : EG) (M : Mem) (a0 : Nat) (h_a0 : a0 < 7) (q : Mem × Int32) (h : F_J0_isLatin1_aae02 M a0 = some q) : Kt yJ0_isLatin1_aae02 P_J0_isLatin1_aae02 M [] [.ref (G.1 a0)] (RI G q) := Kt.of (by decide +kernel) rfl (Nat.le_of_ble_eq_true rfl) rfl (fun X hz => w_J0_isLatin1_aae02 M a0 h_a0 h)
set_option maxHeartbeats 4000000 in
theorem w_J0_length_8abf5 {X : Option Cx} {G : EG} {res : Mem × Int32} (M : Mem) (a0 : Nat) (h_a0 : a0 < 7) (hF : F_J0_length_8abf5 M a0 = some res) : T X (RI G res) P_J0_length_8abf5 M [] [(0, .ref (G.1 a0))] [] 0 := by
  unfold F_J0_length_8abf5 at hF
  refine r_aload_n (pc := 0) 0 dJ0_length_8abf5_0 rfl rfl ?_
  refine r_sval (pc := 1) (i := a0) h_a0 tw_1570 dJ0_length_8abf5_1 ?_
  refine r_btlen (pc := 4) (i := a0) h_a0 dJ0_length_8abf5_4 ?_
  refine r_aload_n (pc := 5) 0 dJ0_length_8abf5_5 rfl rfl ?_
  refine r_callVS_I (pc := 6) (Py := P_J0_coder_7d493) (n := 0) (As := []) (fun q e => k_J0_coder_7d493 G _ a0 h_a0 q e) (i := a0) h_a0 rfl tw_811 tw_812 tw_813 tw_80 tw_814 hd_J0_coder_7d493 ⟨Nat.le_of_ble_eq_true rfl, Nat.le_of_ble_eq_true rfl⟩ rfl [] rfl rfl (Nat.le_of_ble_eq_true rfl) dJ0_length_8abf5_6 hF (fun M1 r2 hF => ?_)
  refine r_ishr (pc := 9) dJ0_length_8abf5_9 ?_
  exact r_iret (pc := 10) dJ0_length_8abf5_10 hF
theorem k_J0_length_8abf5 (G : EG) (M : Mem) (a0 : Nat) (h_a0 : a0 < 7) (q : Mem × Int32) (h : F_J0_length_8abf5 M a0 = some q) : Kt yJ0_length_8abf5 P_J0_length_8abf5 M [] [.ref (G.1 a0)] (RI G q) := Kt.of (by decide +kernel) rfl (Nat.le_of_ble_eq_true rfl) rfl (fun X hz => w_J0_length_8abf5 M a0 h_a0 h)
set_option maxHeartbeats 4000000 in
theorem w_J1_canEncode_9a6ad_p16 {X : Option Cx} {G : EG} {res : Mem × Int32} : ∀ (M : Mem) (y0 : Int32), F_J1_canEncode_9a6ad_p16 M y0 = some res → T X (RI G res) P_J1_canEncode_9a6ad M [] [] [.int y0] 16 := by
  intro M y0 hF
  unfold F_J1_canEncode_9a6ad_p16 at hF
  exact r_zret (pc := 16) dJ1_canEncode_9a6ad_16 hF
set_option maxHeartbeats 4000000 in
theorem w_J1_canEncode_9a6ad_p15 {X : Option Cx} {G : EG} {res : Mem × Int32} : ∀ (M : Mem), F_J1_canEncode_9a6ad_p15 M = some res → T X (RI G res) P_J1_canEncode_9a6ad M [] [] [] 15 := by
  intro M hF
  unfold F_J1_canEncode_9a6ad_p15 at hF
  refine r_iconst (pc := 15) (w := 0) dJ1_canEncode_9a6ad_15 (by decide) ?_
  exact T.sub ((w_J1_canEncode_9a6ad_p16) M (0 : Int32) hF) [] [] rfl rfl
set_option maxHeartbeats 4000000 in
theorem w_J1_canEncode_9a6ad {X : Option Cx} {G : EG} {res : Mem × Int32} (M : Mem) (a0 : Int32) (hF : F_J1_canEncode_9a6ad M a0 = some res) : T X (RI G res) P_J1_canEncode_9a6ad M [] [(0, .int a0)] [] 0 := by
  unfold F_J1_canEncode_9a6ad at hF
  refine r_iload_n (pc := 0) 0 dJ1_canEncode_9a6ad_0 rfl rfl ?_
  refine r_if_lt (pc := 1) (tgt := 15) dJ1_canEncode_9a6ad_1 rfl hF (fun hF => ?_) (fun hF => ?_)
  · exact T.sub ((w_J1_canEncode_9a6ad_p15) M hF) [] [] rfl rfl
  · refine r_iload_n (pc := 4) 0 dJ1_canEncode_9a6ad_4 rfl rfl ?_
    refine r_sipush (pc := 5) (w := 255) dJ1_canEncode_9a6ad_5 (by decide) ?_
    refine r_icmp_gt (pc := 8) (tgt := 15) dJ1_canEncode_9a6ad_8 rfl hF (fun hF => ?_) (fun hF => ?_)
    · exact T.sub ((w_J1_canEncode_9a6ad_p15) M hF) [] [] rfl rfl
    · refine r_iconst (pc := 11) (w := 1) dJ1_canEncode_9a6ad_11 (by decide) ?_
      refine r_goto (pc := 12) (tgt := 16) dJ1_canEncode_9a6ad_12 rfl ?_
      exact T.sub ((w_J1_canEncode_9a6ad_p16) M (1 : Int32) hF) [] [] rfl rfl
theorem k_J1_canEncode_9a6ad (G : EG) (M : Mem) (a0 : Int32) (q : Mem × Int32) (h : F_J1_canEncode_9a6ad M a0 = some q) : Kt yJ1_canEncode_9a6ad P_J1_canEncode_9a6ad M [] [.int a0] (RI G q) := Kt.of (by decide +kernel) rfl (Nat.le_of_ble_eq_true rfl) rfl (fun X hz => w_J1_canEncode_9a6ad M a0 h)
set_option maxHeartbeats 4000000 in
theorem w_J1_indexOfChar_4cfef_p7 {X : Option Cx} {G : EG} {res : Mem × Int32} {k22 : Mem → Int32 → Option (Mem × Int32)} (hk22 : ∀ (M : Mem) (x5 : Int32), k22 M x5 = some res → T X (RI G res) P_J1_indexOfChar_4cfef M [] [(5, .int x5)] [] 22) {k31 : Mem → Option (Mem × Int32)} (hk31 : ∀ (M : Mem), k31 M = some res → T X (RI G res) P_J1_indexOfChar_4cfef M [] [] [] 31) : ∀ (n : Nat) (M : Mem) (x0 : Nat) (x3 : Int32) (x4 : Int32) (x5 : Int32) (h_x0 : x0 < 7), F_J1_indexOfChar_4cfef_p7 k22 k31 n M x0 x3 x4 x5 = some res → T X (RI G res) P_J1_indexOfChar_4cfef M [] [(0, .ref (G.2.1 x0)), (3, .int x3), (4, .int x4), (5, .int x5)] [] 7 := by
  intro n
  induction n with
  | zero =>
    intro M x0 x3 x4 x5 h_x0 hF
    cases hF
  | succ n ih =>
    intro M x0 x3 x4 x5 h_x0 hF
    unfold F_J1_indexOfChar_4cfef_p7 at hF
    refine r_iload (pc := 7) 3 dJ1_indexOfChar_4cfef_7 rfl ?_
    refine r_iload_n (pc := 9) 1 dJ1_indexOfChar_4cfef_9 rfl rfl ?_
    refine r_icmp_ge (pc := 10) (tgt := 31) dJ1_indexOfChar_4cfef_10 rfl hF (fun hF => ?_) (fun hF => ?_)
    · exact T.sub (hk31 M hF) [] [] rfl rfl
    · refine r_aload_n (pc := 13) 0 dJ1_indexOfChar_4cfef_13 rfl rfl ?_
      refine r_iload (pc := 14) 3 dJ1_indexOfChar_4cfef_14 rfl ?_
      refine r_btld (pc := 16) (i := x0) h_x0 dJ1_indexOfChar_4cfef_16 hF (fun hF => ?_)
      refine r_iload (pc := 17) 2 dJ1_indexOfChar_4cfef_17 rfl ?_
      refine r_icmp_ne (pc := 19) (tgt := 25) dJ1_indexOfChar_4cfef_19 rfl hF (fun hF => ?_) (fun hF => ?_)
      · obtain ⟨v1, e9, hF⟩ := bnd_e hF
        refine r_iinc (pc := 25) (w := v1) (k := 3) (L1 := [(5, .int v1), (0, .ref (G.2.1 x0)), (3, .int x3), (4, .int x4)]) dJ1_indexOfChar_4cfef_25 rfl (by rw [e9]; rfl) (by decide) rfl ?_
        clear e9
        refine r_goto (pc := 28) (tgt := 7) dJ1_indexOfChar_4cfef_28 rfl ?_
        exact T.sub (ih M x0 x3 x4 v1 h_x0 hF) [] [1, 2, 3, 0] rfl rfl
      · exact T.sub (hk22 M x5 hF) [] [3] rfl rfl
set_option maxHeartbeats 4000000 in
theorem w_J1_indexOfChar_4cfef_p22 {X : Option Cx} {G : EG} {res : Mem × Int32} : ∀ (M : Mem) (x5 : Int32), F_J1_indexOfChar_4cfef_p22 M x5 = some res → T X (RI G res) P_J1_indexOfChar_4cfef M [] [(5, .int x5)] [] 22 := by
  intro M x5 hF
  unfold F_J1_indexOfChar_4cfef_p22 at hF
  refine r_iload (pc := 22) 0 dJ1_indexOfChar_4cfef_22 rfl ?_
  exact r_iret (pc := 24) dJ1_indexOfChar_4cfef_24 hF
set_option maxHeartbeats 4000000 in
theorem w_J1_indexOfChar_4cfef_p31 {X : Option Cx} {G : EG} {res : Mem × Int32} : ∀ (M : Mem), F_J1_indexOfChar_4cfef_p31 M = some res → T X (RI G res) P_J1_indexOfChar_4cfef M [] [] [] 31 := by
  intro M hF
  unfold F_J1_indexOfChar_4cfef_p31 at hF
  refine r_iconst (pc := 31) (w := -1) dJ1_indexOfChar_4cfef_31 (by decide) ?_
  exact r_iret (pc := 32) dJ1_indexOfChar_4cfef_32 hF
set_option maxHeartbeats 4000000 in
theorem w_J1_indexOfChar_4cfef {X : Option Cx} {G : EG} {res : Mem × Int32} (M : Mem) (a0 : Nat) (a1 : Int32) (a2 : Int32) (a3 : Int32) (h_a0 : a0 < 7) (hF : F_J1_indexOfChar_4cfef M a0 a1 a2 a3 = some res) : T X (RI G res) P_J1_indexOfChar_4cfef M [] [(0, .ref (G.2.1 a0)), (1, .int a1), (2, .int a2), (3, .int a3)] [] 0 := by
  unfold F_J1_indexOfChar_4cfef at hF
  refine r_iload_n (pc := 0) 1 dJ1_indexOfChar_4cfef_0 rfl rfl ?_
  refine r_i2b (pc := 1) dJ1_indexOfChar_4cfef_1 ?_
  refine r_gI (pc := 2) hF (fun v1 hF => ?_)
  refine r_istore (pc := 2) (L1 := [(4, .int v1), (0, .ref (G.2.1 a0)), (1, .int a1), (2, .int a2), (3, .int a3)]) dJ1_indexOfChar_4cfef_2 (by decide) rfl ?_
  refine r_iload_n (pc := 4) 3 dJ1_indexOfChar_4cfef_4 rfl rfl ?_
  refine r_istore (pc := 5) (L1 := [(5, .int a2), (4, .int v1), (0, .ref (G.2.1 a0)), (1, .int a1), (2, .int a2), (3, .int a3)]) dJ1_indexOfChar_4cfef_5 (by decide) rfl ?_
  exact T.sub ((w_J1_indexOfChar_4cfef_p7 (w_J1_indexOfChar_4cfef_p22) (w_J1_indexOfChar_4cfef_p31) FU) M a0 a3 v1 a2 h_a0 hF) [] [2, 5, 1, 0] rfl rfl
theorem k_J1_indexOfChar_4cfef (G : EG) (M : Mem) (a0 : Nat) (a1 : Int32) (a2 : Int32) (a3 : Int32) (h_a0 : a0 < 7) (q : Mem × Int32) (h : F_J1_indexOfChar_4cfef M a0 a1 a2 a3 = some q) : Kt yJ1_indexOfChar_4cfef P_J1_indexOfChar_4cfef M [] [.ref (G.2.1 a0), .int a1, .int a2, .int a3] (RI G q) := Kt.of (by decide +kernel) rfl (Nat.le_of_ble_eq_true rfl) rfl (fun X hz => w_J1_indexOfChar_4cfef M a0 a1 a2 a3 h_a0 h)
set_option maxHeartbeats 4000000 in
theorem w_J1_indexOf_4cfef {X : Option Cx} {G : EG} {res : Mem × Int32} (M : Mem) (a0 : Nat) (a1 : Int32) (a2 : Int32) (a3 : Int32) (h_a0 : a0 < 7) (hF : F_J1_indexOf_4cfef M a0 a1 a2 a3 = some res) : T X (RI G res) P_J1_indexOf_4cfef M [] [(0, .ref (G.2.1 a0)), (1, .int a1), (2, .int a2), (3, .int a3)] [] 0 := by
  unfold F_J1_indexOf_4cfef at hF
  refine r_iload_n (pc := 0) 1 dJ1_indexOf_4cfef_0 rfl rfl ?_
  refine r_callS_I (pc := 1) (Py := P_J1_canEncode_9a6ad) (n := 1) (As := [.int a1]) (fun q e => k_J1_canEncode_9a6ad G _ a1 q e) tw_818 tw_819 tw_81 tw_820 hd_J1_canEncode_9a6ad ⟨Nat.le_of_ble_eq_true rfl, Nat.le_of_ble_eq_true rfl⟩ rfl [] rfl rfl (Nat.le_of_ble_eq_true rfl) dJ1_indexOf_4cfef_1 hF (fun M1 r2 hF => ?_)
  refine r_if_ne (pc := 4) (tgt := 9) dJ1_indexOf_4cfef_4 rfl hF (fun hF => ?_) (fun hF => ?_)
  · refine r_iload_n (pc := 9) 2 dJ1_indexOf_4cfef_9 rfl rfl ?_
    refine r_iconst (pc := 10) (w := 0) dJ1_indexOf_4cfef_10 (by decide) ?_
    refine r_mmax (pc := 11) tw_821 tw_341 tw_71 tw_342 ⟨Nat.le_of_ble_eq_true rfl, Nat.le_of_ble_eq_true rfl⟩ (Nat.le_of_ble_eq_true rfl) dJ1_indexOf_4cfef_11 ?_
    refine r_gI (pc := 14) hF (fun v3 hF => ?_)
    refine r_istore_n (pc := 14) (L1 := [(2, .int v3), (0, .ref (G.2.1 a0)), (1, .int a1), (3, .int a3)]) dJ1_indexOf_4cfef_14 rfl (by decide) rfl ?_
    refine r_iload_n (pc := 15) 3 dJ1_indexOf_4cfef_15 rfl rfl ?_
    refine r_aload_n (pc := 16) 1 dJ1_indexOf_4cfef_16 rfl rfl ?_
    refine r_btlen (pc := 17) (i := a0) h_a0 dJ1_indexOf_4cfef_17 ?_
    refine r_mmin (pc := 18) tw_822 tw_564 tw_71 tw_565 ⟨Nat.le_of_ble_eq_true rfl, Nat.le_of_ble_eq_true rfl⟩ (Nat.le_of_ble_eq_true rfl) dJ1_indexOf_4cfef_18 ?_
    refine r_gI (pc := 21) hF (fun v4 hF => ?_)
    refine r_istore_n (pc := 21) (L1 := [(3, .int v4), (2, .int v3), (0, .ref (G.2.1 a0)), (1, .int a1)]) dJ1_indexOf_4cfef_21 rfl (by decide) rfl ?_
    refine r_iload_n (pc := 22) 1 dJ1_indexOf_4cfef_22 rfl rfl ?_
    refine r_iload_n (pc := 23) 0 dJ1_indexOf_4cfef_23 rfl rfl ?_
    refine r_icmp_lt (pc := 24) (tgt := 29) dJ1_indexOf_4cfef_24 rfl hF (fun hF => ?_) (fun hF => ?_)
    · refine r_aload_n (pc := 29) 2 dJ1_indexOf_4cfef_29 rfl rfl ?_
      refine r_iload_n (pc := 30) 3 dJ1_indexOf_4cfef_30 rfl rfl ?_
      refine r_iload_n (pc := 31) 1 dJ1_indexOf_4cfef_31 rfl rfl ?_
      refine r_iload_n (pc := 32) 0 dJ1_indexOf_4cfef_32 rfl rfl ?_
      refine r_callS_I (pc := 33) (Py := P_J1_indexOfChar_4cfef) (n := 4) (As := [.ref (G.2.1 a0), .int a1, .int v3, .int v4]) (fun q e => k_J1_indexOfChar_4cfef G _ a0 a1 v3 v4 h_a0 q e) tw_823 tw_824 tw_81 tw_825 hd_J1_indexOfChar_4cfef ⟨Nat.le_of_ble_eq_true rfl, Nat.le_of_ble_eq_true rfl⟩ rfl [] rfl rfl (Nat.le_of_ble_eq_true rfl) dJ1_indexOf_4cfef_33 hF (fun M5 r6 hF => ?_)
      exact r_iret (pc := 36) dJ1_indexOf_4cfef_36 hF
    · refine r_iconst (pc := 27) (w := -1) dJ1_indexOf_4cfef_27 (by decide) ?_
      exact r_iret (pc := 28) dJ1_indexOf_4cfef_28 hF
  · refine r_iconst (pc := 7) (w := -1) dJ1_indexOf_4cfef_7 (by decide) ?_
    exact r_iret (pc := 8) dJ1_indexOf_4cfef_8 hF
theorem k_J1_indexOf_4cfef (G : EG) (M : Mem) (a0 : Nat) (a1 : Int32) (a2 : Int32) (a3 : Int32) (h_a0 : a0 < 7) (q : Mem × Int32) (h : F_J1_indexOf_4cfef M a0 a1 a2 a3 = some q) : Kt yJ1_indexOf_4cfef P_J1_indexOf_4cfef M [] [.ref (G.2.1 a0), .int a1, .int a2, .int a3] (RI G q) := Kt.of (by decide +kernel) rfl (Nat.le_of_ble_eq_true rfl) rfl (fun X hz => w_J1_indexOf_4cfef M a0 a1 a2 a3 h_a0 h)
set_option maxHeartbeats 4000000 in
theorem w_J0_indexOf_7cf53_p36 {X : Option Cx} {G : EG} {res : Mem × Int32} : ∀ (M : Mem) (y0 : Int32), F_J0_indexOf_7cf53_p36 M y0 = some res → T X (RI G res) P_J0_indexOf_7cf53 M [] [] [.int y0] 36 := by
  intro M y0 hF
  unfold F_J0_indexOf_7cf53_p36 at hF
  exact r_iret (pc := 36) dJ0_indexOf_7cf53_36 hF
set_option maxHeartbeats 4000000 in
theorem w_J0_indexOf_7cf53 {X : Option Cx} {G : EG} {res : Mem × Int32} (M : Mem) (a0 : Nat) (a1 : Int32) (a2 : Int32) (h_a0 : a0 < 7) (hF : F_J0_indexOf_7cf53 M a0 a1 a2 = some res) : T X (RI G res) P_J0_indexOf_7cf53 M [] [(0, .ref (G.1 a0)), (1, .int a1), (2, .int a2)] [] 0 := by
  unfold F_J0_indexOf_7cf53 at hF
  refine r_aload_n (pc := 0) 0 dJ0_indexOf_7cf53_0 rfl rfl ?_
  refine r_callVS_I (pc := 1) (Py := P_J0_isLatin1_aae02) (n := 0) (As := []) (fun q e => k_J0_isLatin1_aae02 G _ a0 h_a0 q e) (i := a0) h_a0 rfl tw_801 tw_802 tw_803 tw_80 tw_804 hd_J0_isLatin1_aae02 ⟨Nat.le_of_ble_eq_true rfl, Nat.le_of_ble_eq_true rfl⟩ rfl [] rfl rfl (Nat.le_of_ble_eq_true rfl) dJ0_indexOf_7cf53_1 hF (fun M1 r2 hF => ?_)
  refine r_if_eq (pc := 4) (tgt := 23) dJ0_indexOf_7cf53_4 rfl hF (fun hF => ?_) (fun hF => ?_)
  · refine r_aload_n (pc := 23) 0 dJ0_indexOf_7cf53_23 rfl rfl ?_
    refine r_sval (pc := 24) (i := a0) h_a0 tw_1570 dJ0_indexOf_7cf53_24 ?_
    refine r_iload_n (pc := 27) 1 dJ0_indexOf_7cf53_27 rfl rfl ?_
    refine r_iload_n (pc := 28) 2 dJ0_indexOf_7cf53_28 rfl rfl ?_
    refine r_aload_n (pc := 29) 0 dJ0_indexOf_7cf53_29 rfl rfl ?_
    refine r_callVS_I (pc := 30) (Py := P_J0_length_8abf5) (n := 0) (As := []) (fun q e => k_J0_length_8abf5 G _ a0 h_a0 q e) (i := a0) h_a0 rfl tw_807 tw_808 tw_809 tw_80 tw_810 hd_J0_length_8abf5 ⟨Nat.le_of_ble_eq_true rfl, Nat.le_of_ble_eq_true rfl⟩ rfl [] rfl rfl (Nat.le_of_ble_eq_true rfl) dJ0_indexOf_7cf53_30 hF (fun M3 r4 hF => ?_)
    cases hF
  · refine r_aload_n (pc := 7) 0 dJ0_indexOf_7cf53_7 rfl rfl ?_
    refine r_sval (pc := 8) (i := a0) h_a0 tw_1570 dJ0_indexOf_7cf53_8 ?_
    refine r_iload_n (pc := 11) 1 dJ0_indexOf_7cf53_11 rfl rfl ?_
    refine r_iload_n (pc := 12) 2 dJ0_indexOf_7cf53_12 rfl rfl ?_
    refine r_aload_n (pc := 13) 0 dJ0_indexOf_7cf53_13 rfl rfl ?_
    refine r_callVS_I (pc := 14) (Py := P_J0_length_8abf5) (n := 0) (As := []) (fun q e => k_J0_length_8abf5 G _ a0 h_a0 q e) (i := a0) h_a0 rfl tw_807 tw_808 tw_809 tw_80 tw_810 hd_J0_length_8abf5 ⟨Nat.le_of_ble_eq_true rfl, Nat.le_of_ble_eq_true rfl⟩ rfl [] rfl rfl (Nat.le_of_ble_eq_true rfl) dJ0_indexOf_7cf53_14 hF (fun M5 r6 hF => ?_)
    refine r_callS_I (pc := 17) (Py := P_J1_indexOf_4cfef) (n := 4) (As := [.ref (G.2.1 a0), .int a1, .int a2, .int r6]) (fun q e => k_J1_indexOf_4cfef G _ a0 a1 a2 r6 h_a0 q e) tw_815 tw_816 tw_81 tw_817 hd_J1_indexOf_4cfef ⟨Nat.le_of_ble_eq_true rfl, Nat.le_of_ble_eq_true rfl⟩ rfl [] rfl rfl (Nat.le_of_ble_eq_true rfl) dJ0_indexOf_7cf53_17 hF (fun M7 r8 hF => ?_)
    refine r_goto (pc := 20) (tgt := 36) dJ0_indexOf_7cf53_20 rfl ?_
    exact T.sub ((w_J0_indexOf_7cf53_p36) M7 r8 hF) [] [] rfl rfl
theorem k_J0_indexOf_7cf53 (G : EG) (M : Mem) (a0 : Nat) (a1 : Int32) (a2 : Int32) (h_a0 : a0 < 7) (q : Mem × Int32) (h : F_J0_indexOf_7cf53 M a0 a1 a2 = some q) : Kt yJ0_indexOf_7cf53 P_J0_indexOf_7cf53 M [] [.ref (G.1 a0), .int a1, .int a2] (RI G q) := Kt.of (by decide +kernel) rfl (Nat.le_of_ble_eq_true rfl) rfl (fun X hz => w_J0_indexOf_7cf53 M a0 a1 a2 h_a0 h)
set_option maxHeartbeats 4000000 in
theorem w_J0_indexOf_0f7a4 {X : Option Cx} {G : EG} {res : Mem × Int32} (M : Mem) (a0 : Nat) (a1 : Int32) (h_a0 : a0 < 7) (hF : F_J0_indexOf_0f7a4 M a0 a1 = some res) : T X (RI G res) P_J0_indexOf_0f7a4 M [] [(0, .ref (G.1 a0)), (1, .int a1)] [] 0 := by
  unfold F_J0_indexOf_0f7a4 at hF
  refine r_aload_n (pc := 0) 0 dJ0_indexOf_0f7a4_0 rfl rfl ?_
  refine r_iload_n (pc := 1) 1 dJ0_indexOf_0f7a4_1 rfl rfl ?_
  refine r_iconst (pc := 2) (w := 0) dJ0_indexOf_0f7a4_2 (by decide) ?_
  refine r_callVS_I (pc := 3) (Py := P_J0_indexOf_7cf53) (n := 2) (As := [.int a1, .int ((0 : Int32))]) (fun q e => k_J0_indexOf_7cf53 G _ a0 a1 (0 : Int32) h_a0 q e) (i := a0) h_a0 rfl tw_797 tw_798 tw_799 tw_80 tw_800 hd_J0_indexOf_7cf53 ⟨Nat.le_of_ble_eq_true rfl, Nat.le_of_ble_eq_true rfl⟩ rfl [] rfl rfl (Nat.le_of_ble_eq_true rfl) dJ0_indexOf_0f7a4_3 hF (fun M1 r2 hF => ?_)
  exact r_iret (pc := 6) dJ0_indexOf_0f7a4_6 hF
theorem k_J0_indexOf_0f7a4 (G : EG) (M : Mem) (a0 : Nat) (a1 : Int32) (h_a0 : a0 < 7) (q : Mem × Int32) (h : F_J0_indexOf_0f7a4 M a0 a1 = some q) : Kt yJ0_indexOf_0f7a4 P_J0_indexOf_0f7a4 M [] [.ref (G.1 a0), .int a1] (RI G q) := Kt.of (by decide +kernel) rfl (Nat.le_of_ble_eq_true rfl) rfl (fun X hz => w_J0_indexOf_0f7a4 M a0 a1 h_a0 h)
set_option maxHeartbeats 4000000 in
theorem w_J3_checkIndex_8e157_p9 {X : Option Cx} {G : EG} {res : Mem × Int32} : ∀ (M : Mem) (x0 : Int32) (x1 : Int32) (x2 : Option Nat), F_J3_checkIndex_8e157_p9 M x0 x1 x2 = some res → T X (RI G res) P_J3_checkIndex_8e157 M [] [(0, .int x0), (1, .int x1), (2, va_rf x2)] [] 9 := by
  intro M x0 x1 x2 hF
  unfold F_J3_checkIndex_8e157_p9 at hF
  refine r_aloado_n (pc := 9) 2 dJ3_checkIndex_8e157_9 rfl rfl ?_
  refine r_iload_n (pc := 10) 0 dJ3_checkIndex_8e157_10 rfl rfl ?_
  refine r_iload_n (pc := 11) 1 dJ3_checkIndex_8e157_11 rfl rfl ?_
  cases hF
set_option maxHeartbeats 4000000 in
theorem w_J3_checkIndex_8e157 {X : Option Cx} {G : EG} {res : Mem × Int32} (M : Mem) (a0 : Int32) (a1 : Int32) (a2 : Option Nat) (hF : F_J3_checkIndex_8e157 M a0 a1 a2 = some res) : T X (RI G res) P_J3_checkIndex_8e157 M [] [(0, .int a0), (1, .int a1), (2, va_rf a2)] [] 0 := by
  unfold F_J3_checkIndex_8e157 at hF
  refine r_iload_n (pc := 0) 0 dJ3_checkIndex_8e157_0 rfl rfl ?_
  refine r_if_lt (pc := 1) (tgt := 9) dJ3_checkIndex_8e157_1 rfl hF (fun hF => ?_) (fun hF => ?_)
  · exact T.sub ((w_J3_checkIndex_8e157_p9) M a0 a1 a2 hF) [] [0, 1, 2] rfl rfl
  · refine r_iload_n (pc := 4) 0 dJ3_checkIndex_8e157_4 rfl rfl ?_
    refine r_iload_n (pc := 5) 1 dJ3_checkIndex_8e157_5 rfl rfl ?_
    refine r_icmp_lt (pc := 6) (tgt := 16) dJ3_checkIndex_8e157_6 rfl hF (fun hF => ?_) (fun hF => ?_)
    · refine r_iload_n (pc := 16) 0 dJ3_checkIndex_8e157_16 rfl rfl ?_
      exact r_iret (pc := 17) dJ3_checkIndex_8e157_17 hF
    · exact T.sub ((w_J3_checkIndex_8e157_p9) M a0 a1 a2 hF) [] [0, 1, 2] rfl rfl
theorem k_J3_checkIndex_8e157 (G : EG) (M : Mem) (a0 : Int32) (a1 : Int32) (a2 : Option Nat) (q : Mem × Int32) (h : F_J3_checkIndex_8e157 M a0 a1 a2 = some q) : Kt yJ3_checkIndex_8e157 P_J3_checkIndex_8e157 M [] [.int a0, .int a1, va_rf a2] (RI G q) := Kt.of (by decide +kernel) rfl (by cases a2 <;>  exact Nat.le_of_ble_eq_true rfl) (by cases a2 <;>  rfl) (fun X hz => w_J3_checkIndex_8e157 M a0 a1 a2 h)
set_option maxHeartbeats 4000000 in
theorem w_J15_checkIndex_7cf53 {X : Option Cx} {G : EG} {res : Mem × Int32} (M : Mem) (a0 : Int32) (a1 : Int32) (hF : F_J15_checkIndex_7cf53 M a0 a1 = some res) : T X (RI G res) P_J15_checkIndex_7cf53 M [] [(0, .int a0), (1, .int a1)] [] 0 := by
  unfold F_J15_checkIndex_7cf53 at hF
  refine r_iload_n (pc := 0) 0 dJ15_checkIndex_7cf53_0 rfl rfl ?_
  refine r_iload_n (pc := 1) 1 dJ15_checkIndex_7cf53_1 rfl rfl ?_
  refine r_null (pc := 2) dJ15_checkIndex_7cf53_2 ?_
  refine r_callS_I (pc := 3) (Py := P_J3_checkIndex_8e157) (n := 3) (As := [.int a0, .int a1, va_rf none]) (fun q e => k_J3_checkIndex_8e157 G _ a0 a1 none q e) tw_354 tw_355 tw_73 tw_356 hd_J3_checkIndex_8e157 ⟨Nat.le_of_ble_eq_true rfl, Nat.le_of_ble_eq_true rfl⟩ rfl [] rfl rfl (Nat.le_of_ble_eq_true rfl) dJ15_checkIndex_7cf53_3 hF (fun M1 r2 hF => ?_)
  exact r_iret (pc := 6) dJ15_checkIndex_7cf53_6 hF
theorem k_J15_checkIndex_7cf53 (G : EG) (M : Mem) (a0 : Int32) (a1 : Int32) (q : Mem × Int32) (h : F_J15_checkIndex_7cf53 M a0 a1 = some q) : Kt yJ15_checkIndex_7cf53 P_J15_checkIndex_7cf53 M [] [.int a0, .int a1] (RI G q) := Kt.of (by decide +kernel) rfl (Nat.le_of_ble_eq_true rfl) rfl (fun X hz => w_J15_checkIndex_7cf53 M a0 a1 h)
set_option maxHeartbeats 4000000 in
theorem w_J6_bitCount_0f7a4 {X : Option Cx} {G : EG} {res : Mem × Int32} (M : Mem) (a0 : Int32) (hF : F_J6_bitCount_0f7a4 M a0 = some res) : T X (RI G res) P_J6_bitCount_0f7a4 M [] [(0, .int a0)] [] 0 := by
  unfold F_J6_bitCount_0f7a4 at hF
  refine r_iload_n (pc := 0) 0 dJ6_bitCount_0f7a4_0 rfl rfl ?_
  refine r_iload_n (pc := 1) 0 dJ6_bitCount_0f7a4_1 rfl rfl ?_
  refine r_iconst (pc := 2) (w := 1) dJ6_bitCount_0f7a4_2 (by decide) ?_
  refine r_iushr (pc := 3) dJ6_bitCount_0f7a4_3 ?_
  refine r_ldcw (pc := 4) (w := 1431655765) tw_984 dJ6_bitCount_0f7a4_4 ?_
  refine r_iand (pc := 7) dJ6_bitCount_0f7a4_7 ?_
  refine r_isub (pc := 8) dJ6_bitCount_0f7a4_8 ?_
  refine r_gI (pc := 9) hF (fun v1 hF => ?_)
  refine r_istore_n (pc := 9) (L1 := [(0, .int v1)]) dJ6_bitCount_0f7a4_9 rfl (by decide) rfl ?_
  refine r_iload_n (pc := 10) 0 dJ6_bitCount_0f7a4_10 rfl rfl ?_
  refine r_ldcw (pc := 11) (w := 858993459) tw_985 dJ6_bitCount_0f7a4_11 ?_
  refine r_iand (pc := 14) dJ6_bitCount_0f7a4_14 ?_
  refine r_iload_n (pc := 15) 0 dJ6_bitCount_0f7a4_15 rfl rfl ?_
  refine r_iconst (pc := 16) (w := 2) dJ6_bitCount_0f7a4_16 (by decide) ?_
  refine r_iushr (pc := 17) dJ6_bitCount_0f7a4_17 ?_
  refine r_ldcw (pc := 18) (w := 858993459) tw_985 dJ6_bitCount_0f7a4_18 ?_
  refine r_iand (pc := 21) dJ6_bitCount_0f7a4_21 ?_
  refine r_iadd (pc := 22) dJ6_bitCount_0f7a4_22 ?_
  refine r_gI (pc := 23) hF (fun v2 hF => ?_)
  refine r_istore_n (pc := 23) (L1 := [(0, .int v2)]) dJ6_bitCount_0f7a4_23 rfl (by decide) rfl ?_
  refine r_iload_n (pc := 24) 0 dJ6_bitCount_0f7a4_24 rfl rfl ?_
  refine r_iload_n (pc := 25) 0 dJ6_bitCount_0f7a4_25 rfl rfl ?_
  refine r_iconst (pc := 26) (w := 4) dJ6_bitCount_0f7a4_26 (by decide) ?_
  refine r_iushr (pc := 27) dJ6_bitCount_0f7a4_27 ?_
  refine r_iadd (pc := 28) dJ6_bitCount_0f7a4_28 ?_
  refine r_ldcw (pc := 29) (w := 252645135) tw_986 dJ6_bitCount_0f7a4_29 ?_
  refine r_iand (pc := 32) dJ6_bitCount_0f7a4_32 ?_
  refine r_gI (pc := 33) hF (fun v3 hF => ?_)
  refine r_istore_n (pc := 33) (L1 := [(0, .int v3)]) dJ6_bitCount_0f7a4_33 rfl (by decide) rfl ?_
  refine r_iload_n (pc := 34) 0 dJ6_bitCount_0f7a4_34 rfl rfl ?_
  refine r_iload_n (pc := 35) 0 dJ6_bitCount_0f7a4_35 rfl rfl ?_
  refine r_bipush (pc := 36) (w := 8) dJ6_bitCount_0f7a4_36 (by decide) ?_
  refine r_iushr (pc := 38) dJ6_bitCount_0f7a4_38 ?_
  refine r_iadd (pc := 39) dJ6_bitCount_0f7a4_39 ?_
  refine r_gI (pc := 40) hF (fun v4 hF => ?_)
  refine r_istore_n (pc := 40) (L1 := [(0, .int v4)]) dJ6_bitCount_0f7a4_40 rfl (by decide) rfl ?_
  refine r_iload_n (pc := 41) 0 dJ6_bitCount_0f7a4_41 rfl rfl ?_
  refine r_iload_n (pc := 42) 0 dJ6_bitCount_0f7a4_42 rfl rfl ?_
  refine r_bipush (pc := 43) (w := 16) dJ6_bitCount_0f7a4_43 (by decide) ?_
  refine r_iushr (pc := 45) dJ6_bitCount_0f7a4_45 ?_
  refine r_iadd (pc := 46) dJ6_bitCount_0f7a4_46 ?_
  refine r_gI (pc := 47) hF (fun v5 hF => ?_)
  refine r_istore_n (pc := 47) (L1 := [(0, .int v5)]) dJ6_bitCount_0f7a4_47 rfl (by decide) rfl ?_
  refine r_iload_n (pc := 48) 0 dJ6_bitCount_0f7a4_48 rfl rfl ?_
  refine r_bipush (pc := 49) (w := 63) dJ6_bitCount_0f7a4_49 (by decide) ?_
  refine r_iand (pc := 51) dJ6_bitCount_0f7a4_51 ?_
  exact r_iret (pc := 52) dJ6_bitCount_0f7a4_52 hF
theorem k_J6_bitCount_0f7a4 (G : EG) (M : Mem) (a0 : Int32) (q : Mem × Int32) (h : F_J6_bitCount_0f7a4 M a0 = some q) : Kt yJ6_bitCount_0f7a4 P_J6_bitCount_0f7a4 M [] [.int a0] (RI G q) := Kt.of (by decide +kernel) rfl (Nat.le_of_ble_eq_true rfl) rfl (fun X hz => w_J6_bitCount_0f7a4 M a0 h)
set_option maxHeartbeats 4000000 in
theorem w_J7_copyOf_6403c_p24 {X : Option Cx} {G : EG} {res : Mem × Option Nat} : ∀ (M : Mem) (x0 : Nat) (x1 : Int32) (y0 : Nat), F_J7_copyOf_6403c_p24 M x0 x1 y0 = some res → T X (RR G res) P_J7_copyOf_6403c M [(y0, 23)] [(0, .ref x0), (1, .int x1)] [.ref y0] 24 := by
  intro M x0 x1 y0 hF
  unfold F_J7_copyOf_6403c_p24 at hF
  refine r_astore_n (pc := 24) (L1 := [(3, .ref y0), (0, .ref x0), (1, .int x1)]) dJ7_copyOf_6403c_24 rfl (by decide) rfl ?_
  refine r_aload_n (pc := 25) 1 dJ7_copyOf_6403c_25 rfl rfl ?_
  refine r_iconst (pc := 26) (w := 0) dJ7_copyOf_6403c_26 (by decide) ?_
  refine r_aload_n (pc := 27) 0 dJ7_copyOf_6403c_27 rfl rfl ?_
  refine r_iconst (pc := 28) (w := 0) dJ7_copyOf_6403c_28 (by decide) ?_
  refine r_aload_n (pc := 29) 1 dJ7_copyOf_6403c_29 rfl rfl ?_
  refine r_alenE (pc := 30) dJ7_copyOf_6403c_30 hF (fun hF => ?_)
  refine r_iload_n (pc := 31) 2 dJ7_copyOf_6403c_31 rfl rfl ?_
  refine r_mmin (pc := 32) tw_563 tw_564 tw_71 tw_565 ⟨Nat.le_of_ble_eq_true rfl, Nat.le_of_ble_eq_true rfl⟩ (Nat.le_of_ble_eq_true rfl) dJ7_copyOf_6403c_32 ?_
  refine r_kind (by decide) hF (fun hF => ?_)
  refine r_copy (pc := 35) (j0 := 0) (j1 := 1) rfl rfl tw_566 tw_568 tw_567 tw_78 ⟨Nat.le_of_ble_eq_true rfl, Nat.le_of_ble_eq_true rfl⟩ (Nat.le_of_ble_eq_true rfl) dJ7_copyOf_6403c_35 hF (fun M1 hF => ?_)
  refine r_aload_n (pc := 38) 0 dJ7_copyOf_6403c_38 rfl rfl ?_
  exact r_aret (pc := 39) (w := some y0) (Or.inr ⟨_, rfl⟩) dJ7_copyOf_6403c_39 hF
set_option maxHeartbeats 4000000 in
theorem w_J7_copyOf_6403c {X : Option Cx} {G : EG} {res : Mem × Option Nat} (M : Mem) (a0 : Nat) (a1 : Int32) (hF : F_J7_copyOf_6403c M a0 a1 = some res) : T X (RR G res) P_J7_copyOf_6403c M [] [(0, .ref a0), (1, .int a1), (2, .ref G.2.2.2)] [] 0 := by
  unfold F_J7_copyOf_6403c at hF
  refine r_aload_n (pc := 0) 2 dJ7_copyOf_6403c_0 rfl rfl ?_
  refine r_ldcM (pc := 1) tw_560 dJ7_copyOf_6403c_1 ?_
  refine r_acmpS_ne (pc := 3) (tgt := 13) dJ7_copyOf_6403c_3 rfl ?_
  refine r_iload_n (pc := 6) 1 dJ7_copyOf_6403c_6 rfl rfl ?_
  refine r_newq (pc := 7) tw_562 dJ7_copyOf_6403c_7 hF (fun b1 M2 hF => ?_)
  refine r_goto (pc := 10) (tgt := 24) dJ7_copyOf_6403c_10 rfl ?_
  exact T.sub ((w_J7_copyOf_6403c_p24) M2 a0 a1 b1 hF) [0] [0, 1] rfl rfl
theorem k_J7_copyOf_6403c (G : EG) (M : Mem) (a0 : Nat) (a1 : Int32) (q : Mem × Option Nat) (h : F_J7_copyOf_6403c M a0 a1 = some q) : Kt yJ7_copyOf_6403c P_J7_copyOf_6403c M [] [.ref a0, .int a1, .ref G.2.2.2] (RR G q) := Kt.of (by decide +kernel) rfl (Nat.le_of_ble_eq_true rfl) rfl (fun X hz => w_J7_copyOf_6403c M a0 a1 h)
set_option maxHeartbeats 4000000 in
theorem w_J7_copyOf_1904c {X : Option Cx} {G : EG} {res : Mem × Option Nat} (M : Mem) (a0 : Nat) (a1 : Int32) (hF : F_J7_copyOf_1904c M a0 a1 = some res) : T X (RR G res) P_J7_copyOf_1904c M [] [(0, .ref a0), (1, .int a1)] [] 0 := by
  unfold F_J7_copyOf_1904c at hF
  refine r_aload_n (pc := 0) 0 dJ7_copyOf_1904c_0 rfl rfl ?_
  refine r_iload_n (pc := 1) 1 dJ7_copyOf_1904c_1 rfl rfl ?_
  refine r_aload_n (pc := 2) 0 dJ7_copyOf_1904c_2 rfl rfl ?_
  refine r_kind (by decide) hF (fun hF => ?_)
  refine r_getC (pc := 3) (j := 0) rfl tw_539 tw_1561 tw_540 tw_556 ⟨Nat.le_of_ble_eq_true rfl, Nat.le_of_ble_eq_true rfl⟩ (Nat.le_of_ble_eq_true rfl) dJ7_copyOf_1904c_3 ?_
  refine r_callS_R (pc := 6) (Py := P_J7_copyOf_6403c) (n := 3) (As := [.ref a0, .int a1, .ref G.2.2.2]) (fun q e => k_J7_copyOf_6403c G _ a0 a1 q e) tw_557 tw_558 tw_77 tw_559 hd_J7_copyOf_6403c ⟨Nat.le_of_ble_eq_true rfl, Nat.le_of_ble_eq_true rfl⟩ rfl [] rfl rfl (Nat.le_of_ble_eq_true rfl) dJ7_copyOf_1904c_6 hF (fun M1 r2 hF => ?_)
  refine r_lr (by decide) hF (fun b3 hF => ?_)
  exact r_aret (pc := 9) (w := some b3) (Or.inr ⟨_, rfl⟩) dJ7_copyOf_1904c_9 hF
theorem k_J7_copyOf_1904c (G : EG) (M : Mem) (a0 : Nat) (a1 : Int32) (q : Mem × Option Nat) (h : F_J7_copyOf_1904c M a0 a1 = some q) : Kt yJ7_copyOf_1904c P_J7_copyOf_1904c M [] [.ref a0, .int a1] (RR G q) := Kt.of (by decide +kernel) rfl (Nat.le_of_ble_eq_true rfl) rfl (fun X hz => w_J7_copyOf_1904c M a0 a1 h)
set_option maxHeartbeats 4000000 in
theorem w_J8_newLength_cabcc_p21 {X : Option Cx} {G : EG} {res : Mem × Int32} : ∀ (M : Mem) (x0 : Int32) (x1 : Int32), F_J8_newLength_cabcc_p21 M x0 x1 = some res → T X (RI G res) P_J8_newLength_cabcc M [] [(0, .int x0), (1, .int x1)] [] 21 := by
  intro M x0 x1 hF
  unfold F_J8_newLength_cabcc_p21 at hF
  refine r_iload_n (pc := 21) 0 dJ8_newLength_cabcc_21 rfl rfl ?_
  refine r_iload_n (pc := 22) 1 dJ8_newLength_cabcc_22 rfl rfl ?_
  cases hF
set_option maxHeartbeats 4000000 in
theorem w_J8_newLength_cabcc {X : Option Cx} {G : EG} {res : Mem × Int32} (M : Mem) (a0 : Int32) (a1 : Int32) (a2 : Int32) (hF : F_J8_newLength_cabcc M a0 a1 a2 = some res) : T X (RI G res) P_J8_newLength_cabcc M [] [(0, .int a0), (1, .int a1), (2, .int a2)] [] 0 := by
  unfold F_J8_newLength_cabcc at hF
  refine r_iload_n (pc := 0) 0 dJ8_newLength_cabcc_0 rfl rfl ?_
  refine r_iload_n (pc := 1) 1 dJ8_newLength_cabcc_1 rfl rfl ?_
  refine r_iload_n (pc := 2) 2 dJ8_newLength_cabcc_2 rfl rfl ?_
  refine r_mmax (pc := 3) tw_531 tw_341 tw_71 tw_342 ⟨Nat.le_of_ble_eq_true rfl, Nat.le_of_ble_eq_true rfl⟩ (Nat.le_of_ble_eq_true rfl) dJ8_newLength_cabcc_3 ?_
  refine r_iadd (pc := 6) dJ8_newLength_cabcc_6 ?_
  refine r_gI (pc := 7) hF (fun v1 hF => ?_)
  refine r_istore_n (pc := 7) (L1 := [(3, .int v1), (0, .int a0), (1, .int a1), (2, .int a2)]) dJ8_newLength_cabcc_7 rfl (by decide) rfl ?_
  refine r_iconst (pc := 8) (w := 0) dJ8_newLength_cabcc_8 (by decide) ?_
  refine r_iload_n (pc := 9) 0 dJ8_newLength_cabcc_9 rfl rfl ?_
  refine r_icmp_ge (pc := 10) (tgt := 21) dJ8_newLength_cabcc_10 rfl hF (fun hF => ?_) (fun hF => ?_)
  · exact T.sub ((w_J8_newLength_cabcc_p21) M a0 a1 hF) [] [1, 2] rfl rfl
  · refine r_iload_n (pc := 13) 0 dJ8_newLength_cabcc_13 rfl rfl ?_
    refine r_ldc (pc := 14) (w := 2147483639) tw_532 dJ8_newLength_cabcc_14 ?_
    refine r_icmp_gt (pc := 16) (tgt := 21) dJ8_newLength_cabcc_16 rfl hF (fun hF => ?_) (fun hF => ?_)
    · exact T.sub ((w_J8_newLength_cabcc_p21) M a0 a1 hF) [] [1, 2] rfl rfl
    · refine r_iload_n (pc := 19) 0 dJ8_newLength_cabcc_19 rfl rfl ?_
      exact r_iret (pc := 20) dJ8_newLength_cabcc_20 hF
theorem k_J8_newLength_cabcc (G : EG) (M : Mem) (a0 : Int32) (a1 : Int32) (a2 : Int32) (q : Mem × Int32) (h : F_J8_newLength_cabcc M a0 a1 a2 = some q) : Kt yJ8_newLength_cabcc P_J8_newLength_cabcc M [] [.int a0, .int a1, .int a2] (RI G q) := Kt.of (by decide +kernel) rfl (Nat.le_of_ble_eq_true rfl) rfl (fun X hz => w_J8_newLength_cabcc M a0 a1 a2 h)
set_option maxHeartbeats 4000000 in
theorem w_Jx4a65c_grow_92f84_p20 {X : Option Cx} {G : EG} {res : Mem × Option Nat} : ∀ (M : Mem) (x0 : Nat) (x1 : Int32) (x2 : Int32), F_Jx4a65c_grow_92f84_p20 M x0 x1 x2 = some res → T X (RR G res) P_Jx4a65c_grow_92f84 M [(x0, 1)] [(0, .ref x0), (1, .int x1), (2, .int x2)] [] 20 := by
  intro M x0 x1 x2 hF
  unfold F_Jx4a65c_grow_92f84_p20 at hF
  refine r_iload_n (pc := 20) 2 dJx4a65c_grow_92f84_20 rfl rfl ?_
  refine r_iload_n (pc := 21) 1 dJx4a65c_grow_92f84_21 rfl rfl ?_
  refine r_iload_n (pc := 22) 2 dJx4a65c_grow_92f84_22 rfl rfl ?_
  refine r_isub (pc := 23) dJx4a65c_grow_92f84_23 ?_
  refine r_iload_n (pc := 24) 2 dJx4a65c_grow_92f84_24 rfl rfl ?_
  refine r_iconst (pc := 25) (w := 1) dJx4a65c_grow_92f84_25 (by decide) ?_
  refine r_ishr (pc := 26) dJx4a65c_grow_92f84_26 ?_
  refine r_callS_I (pc := 27) (Py := P_J8_newLength_cabcc) (n := 3) (As := [.int x2, .int (x1 - x2), .int (x2 >>> ((1 : Int32) &&& 31))]) (fun q e => k_J8_newLength_cabcc G _ x2 (x1 - x2) (x2 >>> ((1 : Int32) &&& 31)) q e) tw_528 tw_529 tw_76 tw_530 hd_J8_newLength_cabcc ⟨Nat.le_of_ble_eq_true rfl, Nat.le_of_ble_eq_true rfl⟩ rfl [] rfl rfl (Nat.le_of_ble_eq_true rfl) dJx4a65c_grow_92f84_27 hF (fun M1 r2 hF => ?_)
  refine r_istore_n (pc := 30) (L1 := [(3, .int r2), (0, .ref x0), (1, .int x1), (2, .int x2)]) dJx4a65c_grow_92f84_30 rfl (by decide) rfl ?_
  refine r_aload_n (pc := 31) 1 dJx4a65c_grow_92f84_31 rfl rfl ?_
  refine r_aload_n (pc := 32) 1 dJx4a65c_grow_92f84_32 rfl rfl ?_
  refine gf_Jx4a65c_9 (pc := 33) (j := 0) rfl dJx4a65c_grow_92f84_33 ?_
  refine r_nn hF (fun b3 _ hF => ?_)
  refine r_iload_n (pc := 36) 0 dJx4a65c_grow_92f84_36 rfl rfl ?_
  refine r_callS_R (pc := 37) (Py := P_J7_copyOf_1904c) (n := 2) (As := [.ref b3, .int r2]) (fun q e => k_J7_copyOf_1904c G _ b3 r2 q e) tw_536 tw_537 tw_77 tw_538 hd_J7_copyOf_1904c ⟨Nat.le_of_ble_eq_true rfl, Nat.le_of_ble_eq_true rfl⟩ rfl [] rfl rfl (Nat.le_of_ble_eq_true rfl) dJx4a65c_grow_92f84_37 hF (fun M4 r5 hF => ?_)
  refine r_lr (by decide) hF (fun b6 hF => ?_)
  refine r_dup_x1 (pc := 40) dJx4a65c_grow_92f84_40 rfl rfl ?_
  refine pf_Jx4a65c_9 (pc := 41) (w := (some b6)) (j := 1) rfl dJx4a65c_grow_92f84_41 hF (fun M7 hF => ?_)
  exact r_aret (pc := 44) (w := some b6) (Or.inr ⟨_, rfl⟩) dJx4a65c_grow_92f84_44 hF
set_option maxHeartbeats 4000000 in
theorem w_Jx4a65c_grow_92f84 {X : Option Cx} {G : EG} {res : Mem × Option Nat} (M : Mem) (a0 : Nat) (a1 : Int32) (hF : F_Jx4a65c_grow_92f84 M a0 a1 = some res) : T X (RR G res) P_Jx4a65c_grow_92f84 M [(a0, 1)] [(0, .ref a0), (1, .int a1)] [] 0 := by
  unfold F_Jx4a65c_grow_92f84 at hF
  refine r_aload_n (pc := 0) 0 dJx4a65c_grow_92f84_0 rfl rfl ?_
  refine gf_Jx4a65c_9 (pc := 1) (j := 0) rfl dJx4a65c_grow_92f84_1 ?_
  refine r_nn hF (fun b1 _ hF => ?_)
  refine r_alenE (pc := 4) dJx4a65c_grow_92f84_4 hF (fun hF => ?_)
  refine r_gI (pc := 5) hF (fun v2 hF => ?_)
  refine r_istore_n (pc := 5) (L1 := [(2, .int v2), (0, .ref a0), (1, .int a1)]) dJx4a65c_grow_92f84_5 rfl (by decide) rfl ?_
  refine r_iload_n (pc := 6) 0 dJx4a65c_grow_92f84_6 rfl rfl ?_
  refine r_if_gt (pc := 7) (tgt := 20) dJx4a65c_grow_92f84_7 rfl hF (fun hF => ?_) (fun hF => ?_)
  · exact T.sub ((w_Jx4a65c_grow_92f84_p20) M a0 a1 v2 hF) [0] [1, 2, 0] rfl rfl
  · refine r_aload_n (pc := 10) 1 dJx4a65c_grow_92f84_10 rfl rfl ?_
    refine gf_Jx4a65c_9 (pc := 11) (j := 0) rfl dJx4a65c_grow_92f84_11 ?_
    refine r_nn hF (fun b3 _ hF => ?_)
    refine r_gstE (pc := 14) tw_113 dJx4a65c_grow_92f84_14 ?_
    refine r_acmp_eq (pc := 17) (rx := some b3) (ry := some (gE M)) (tgt := 45) dJx4a65c_grow_92f84_17 rfl hF (fun hF => ?_) (fun hF => ?_)
    · refine r_aload_n (pc := 45) 1 dJx4a65c_grow_92f84_45 rfl rfl ?_
      refine r_bipush (pc := 46) (w := 10) dJx4a65c_grow_92f84_46 (by decide) ?_
      refine r_iload_n (pc := 48) 2 dJx4a65c_grow_92f84_48 rfl rfl ?_
      refine r_mmax (pc := 49) tw_569 tw_341 tw_71 tw_342 ⟨Nat.le_of_ble_eq_true rfl, Nat.le_of_ble_eq_true rfl⟩ (Nat.le_of_ble_eq_true rfl) dJx4a65c_grow_92f84_49 ?_
      refine r_newq (pc := 52) tw_570 dJx4a65c_grow_92f84_52 hF (fun b4 M5 hF => ?_)
      refine r_dup_x1 (pc := 55) dJx4a65c_grow_92f84_55 rfl rfl ?_
      refine pf_Jx4a65c_9 (pc := 56) (w := (some b4)) (j := 1) rfl dJx4a65c_grow_92f84_56 hF (fun M6 hF => ?_)
      exact r_aret (pc := 59) (w := some b4) (Or.inr ⟨_, rfl⟩) dJx4a65c_grow_92f84_59 hF
    · exact T.sub ((w_Jx4a65c_grow_92f84_p20) M a0 a1 v2 hF) [0] [1, 2, 0] rfl rfl
theorem k_Jx4a65c_grow_92f84 (G : EG) (M : Mem) (a0 : Nat) (a1 : Int32) (q : Mem × Option Nat) (h : F_Jx4a65c_grow_92f84 M a0 a1 = some q) : Kt yJx4a65c_grow_92f84 P_Jx4a65c_grow_92f84 M [(a0, 1)] [.ref a0, .int a1] (RR G q) := Kt.of (by decide +kernel) rfl (Nat.le_of_ble_eq_true rfl) rfl (fun X hz => w_Jx4a65c_grow_92f84 M a0 a1 h)
set_option maxHeartbeats 4000000 in
theorem w_Jx4a65c_grow_d5877 {X : Option Cx} {G : EG} {res : Mem × Option Nat} (M : Mem) (a0 : Nat) (hF : F_Jx4a65c_grow_d5877 M a0 = some res) : T X (RR G res) P_Jx4a65c_grow_d5877 M [(a0, 1)] [(0, .ref a0)] [] 0 := by
  unfold F_Jx4a65c_grow_d5877 at hF
  refine r_aload_n (pc := 0) 0 dJx4a65c_grow_d5877_0 rfl rfl ?_
  refine r_aload_n (pc := 1) 0 dJx4a65c_grow_d5877_1 rfl rfl ?_
  refine gf_Jx4a65c_48 (pc := 2) (j := 0) rfl dJx4a65c_grow_d5877_2 ?_
  refine r_iconst (pc := 5) (w := 1) dJx4a65c_grow_d5877_5 (by decide) ?_
  refine r_iadd (pc := 6) dJx4a65c_grow_d5877_6 ?_
  refine r_callV_R (pc := 7) (Py := P_Jx4a65c_grow_92f84) (n := 1) (As := [.int ((gI M 2 a0) + (1 : Int32))]) (fun q e => k_Jx4a65c_grow_92f84 G _ a0 ((gI M 2 a0) + (1 : Int32)) q e) (c := 0) (Tb := TJx4a65c) (N := 3) rfl (by decide) (j0 := 0) rfl tw_524 tw_526 tw_8 tw_64 tw_527 hd_Jx4a65c_grow_92f84 ⟨Nat.le_of_ble_eq_true rfl, Nat.le_of_ble_eq_true rfl⟩ rfl [0] rfl rfl (Nat.le_of_ble_eq_true rfl) dJx4a65c_grow_d5877_7 hF (fun M1 r2 hF => ?_)
  refine r_lr (by decide) hF (fun b3 hF => ?_)
  exact r_aret (pc := 10) (w := some b3) (Or.inr ⟨_, rfl⟩) dJx4a65c_grow_d5877_10 hF
theorem k_Jx4a65c_grow_d5877 (G : EG) (M : Mem) (a0 : Nat) (q : Mem × Option Nat) (h : F_Jx4a65c_grow_d5877 M a0 = some q) : Kt yJx4a65c_grow_d5877 P_Jx4a65c_grow_d5877 M [(a0, 1)] [.ref a0] (RR G q) := Kt.of (by decide +kernel) rfl (Nat.le_of_ble_eq_true rfl) rfl (fun X hz => w_Jx4a65c_grow_d5877 M a0 h)
set_option maxHeartbeats 4000000 in
theorem w_Jx4a65c_add_72be8_p11 {X : Option Cx} {G : EG} {res : Mem × Unit} : ∀ (M : Mem) (x0 : Nat) (x1 : Nat) (x2 : Nat) (x3 : Int32), F_Jx4a65c_add_72be8_p11 M x0 x1 x2 x3 = some res → T X (RV G res) P_Jx4a65c_add_72be8 M [(x0, 1)] [(0, .ref x0), (1, .ref x1), (2, .ref x2), (3, .int x3)] [] 11 := by
  intro M x0 x1 x2 x3 hF
  unfold F_Jx4a65c_add_72be8_p11 at hF
  refine r_aload_n (pc := 11) 2 dJx4a65c_add_72be8_11 rfl rfl ?_
  refine r_iload_n (pc := 12) 3 dJx4a65c_add_72be8_12 rfl rfl ?_
  refine r_aload_n (pc := 13) 1 dJx4a65c_add_72be8_13 rfl rfl ?_
  refine r_kind (by decide) hF (fun hF => ?_)
  refine r_aast (pc := 14) (j := 0) rfl dJx4a65c_add_72be8_14 hF (fun M1 hF => ?_)
  refine r_aload_n (pc := 15) 0 dJx4a65c_add_72be8_15 rfl rfl ?_
  refine r_iload_n (pc := 16) 3 dJx4a65c_add_72be8_16 rfl rfl ?_
  refine r_iconst (pc := 17) (w := 1) dJx4a65c_add_72be8_17 (by decide) ?_
  refine r_iadd (pc := 18) dJx4a65c_add_72be8_18 ?_
  refine pf_Jx4a65c_48 (pc := 19) (j := 1) rfl dJx4a65c_add_72be8_19 hF (fun M2 hF => ?_)
  exact r_vret (pc := 22) dJx4a65c_add_72be8_22 hF
set_option maxHeartbeats 4000000 in
theorem w_Jx4a65c_add_72be8 {X : Option Cx} {G : EG} {res : Mem × Unit} (M : Mem) (a0 : Nat) (a1 : Nat) (a2 : Nat) (a3 : Int32) (hF : F_Jx4a65c_add_72be8 M a0 a1 a2 a3 = some res) : T X (RV G res) P_Jx4a65c_add_72be8 M [(a0, 1)] [(0, .ref a0), (1, .ref a1), (2, .ref a2), (3, .int a3)] [] 0 := by
  unfold F_Jx4a65c_add_72be8 at hF
  refine r_iload_n (pc := 0) 3 dJx4a65c_add_72be8_0 rfl rfl ?_
  refine r_aload_n (pc := 1) 2 dJx4a65c_add_72be8_1 rfl rfl ?_
  refine r_alenE (pc := 2) dJx4a65c_add_72be8_2 hF (fun hF => ?_)
  refine r_icmp_ne (pc := 3) (tgt := 11) dJx4a65c_add_72be8_3 rfl hF (fun hF => ?_) (fun hF => ?_)
  · exact T.sub ((w_Jx4a65c_add_72be8_p11) M a0 a1 a2 a3 hF) [0] [0, 1, 2, 3] rfl rfl
  · refine r_aload_n (pc := 6) 0 dJx4a65c_add_72be8_6 rfl rfl ?_
    refine r_callV_R (pc := 7) (Py := P_Jx4a65c_grow_d5877) (n := 0) (As := []) (fun q e => k_Jx4a65c_grow_d5877 G _ a0 q e) (c := 0) (Tb := TJx4a65c) (N := 3) rfl (by decide) (j0 := 0) rfl tw_520 tw_522 tw_7 tw_64 tw_523 hd_Jx4a65c_grow_d5877 ⟨Nat.le_of_ble_eq_true rfl, Nat.le_of_ble_eq_true rfl⟩ rfl [0] rfl rfl (Nat.le_of_ble_eq_true rfl) dJx4a65c_add_72be8_7 hF (fun M1 r2 hF => ?_)
    refine r_lr (by decide) hF (fun b3 hF => ?_)
    refine r_astore_n (pc := 10) (L1 := [(2, .ref b3), (0, .ref a0), (1, .ref a1), (3, .int a3)]) dJx4a65c_add_72be8_10 rfl (by decide) rfl ?_
    exact T.sub ((w_Jx4a65c_add_72be8_p11) M1 a0 a1 b3 a3 hF) [1] [1, 2, 0, 3] rfl rfl
theorem k_Jx4a65c_add_72be8 (G : EG) (M : Mem) (a0 : Nat) (a1 : Nat) (a2 : Nat) (a3 : Int32) (q : Mem × Unit) (h : F_Jx4a65c_add_72be8 M a0 a1 a2 a3 = some q) : Kt yJx4a65c_add_72be8 P_Jx4a65c_add_72be8 M [(a0, 1)] [.ref a0, .ref a1, .ref a2, .int a3] (RV G q) := Kt.of (by decide +kernel) rfl (Nat.le_of_ble_eq_true rfl) rfl (fun X hz => w_Jx4a65c_add_72be8 M a0 a1 a2 a3 h)
set_option maxHeartbeats 4000000 in
theorem w_Jx4a65c_add_9ea2d {X : Option Cx} {G : EG} {res : Mem × Int32} (M : Mem) (a0 : Nat) (a1 : Nat) (hF : F_Jx4a65c_add_9ea2d M a0 a1 = some res) : T X (RI G res) P_Jx4a65c_add_9ea2d M [(a0, 1)] [(0, .ref a0), (1, .ref a1)] [] 0 := by
  unfold F_Jx4a65c_add_9ea2d at hF
  refine r_aload_n (pc := 0) 0 dJx4a65c_add_9ea2d_0 rfl rfl ?_
  refine r_dup (pc := 1) dJx4a65c_add_9ea2d_1 rfl ?_
  refine gf_Jx4a65c_63 (pc := 2) (j := 0) rfl dJx4a65c_add_9ea2d_2 ?_
  refine r_iconst (pc := 5) (w := 1) dJx4a65c_add_9ea2d_5 (by decide) ?_
  refine r_iadd (pc := 6) dJx4a65c_add_9ea2d_6 ?_
  refine pf_Jx4a65c_63 (pc := 7) (j := 0) rfl dJx4a65c_add_9ea2d_7 hF (fun M1 hF => ?_)
  refine r_aload_n (pc := 10) 0 dJx4a65c_add_9ea2d_10 rfl rfl ?_
  refine r_aload_n (pc := 11) 1 dJx4a65c_add_9ea2d_11 rfl rfl ?_
  refine r_aload_n (pc := 12) 0 dJx4a65c_add_9ea2d_12 rfl rfl ?_
  refine gf_Jx4a65c_9 (pc := 13) (j := 0) rfl dJx4a65c_add_9ea2d_13 ?_
  refine r_nn hF (fun b2 _ hF => ?_)
  refine r_aload_n (pc := 16) 0 dJx4a65c_add_9ea2d_16 rfl rfl ?_
  refine gf_Jx4a65c_48 (pc := 17) (j := 0) rfl dJx4a65c_add_9ea2d_17 ?_
  refine r_callV_V (pc := 20) (Py := P_Jx4a65c_add_72be8) (n := 3) (As := [.ref a1, .ref b2, .int (gI M1 2 a0)]) (fun q e => k_Jx4a65c_add_72be8 G _ a0 a1 b2 (gI M1 2 a0) q e) (c := 0) (Tb := TJx4a65c) (N := 3) rfl (by decide) (j0 := 0) rfl tw_516 tw_518 tw_6 tw_64 tw_519 hd_Jx4a65c_add_72be8 ⟨Nat.le_of_ble_eq_true rfl, Nat.le_of_ble_eq_true rfl⟩ rfl [0] rfl rfl (Nat.le_of_ble_eq_true rfl) dJx4a65c_add_9ea2d_20 hF (fun M3 r4 hF => ?_)
  refine r_iconst (pc := 23) (w := 1) dJx4a65c_add_9ea2d_23 (by decide) ?_
  exact r_zret (pc := 24) dJx4a65c_add_9ea2d_24 hF
theorem k_Jx4a65c_add_9ea2d (G : EG) (M : Mem) (a0 : Nat) (a1 : Nat) (q : Mem × Int32) (h : F_Jx4a65c_add_9ea2d M a0 a1 = some q) : Kt yJx4a65c_add_9ea2d P_Jx4a65c_add_9ea2d M [(a0, 1)] [.ref a0, .ref a1] (RI G q) := Kt.of (by decide +kernel) rfl (Nat.le_of_ble_eq_true rfl) rfl (fun X hz => w_Jx4a65c_add_9ea2d M a0 a1 h)
set_option maxHeartbeats 4000000 in
theorem w_Jx4a65c_elementData_915e3 {X : Option Cx} {G : EG} {res : Mem × Option Nat} (M : Mem) (a0 : Nat) (a1 : Int32) (hF : F_Jx4a65c_elementData_915e3 M a0 a1 = some res) : T X (RR G res) P_Jx4a65c_elementData_915e3 M [(a0, 1)] [(0, .ref a0), (1, .int a1)] [] 0 := by
  unfold F_Jx4a65c_elementData_915e3 at hF
  refine r_aload_n (pc := 0) 0 dJx4a65c_elementData_915e3_0 rfl rfl ?_
  refine gf_Jx4a65c_9 (pc := 1) (j := 0) rfl dJx4a65c_elementData_915e3_1 ?_
  refine r_nn hF (fun b1 _ hF => ?_)
  refine r_iload_n (pc := 4) 1 dJx4a65c_elementData_915e3_4 rfl rfl ?_
  refine r_kind (by decide) hF (fun hF => ?_)
  refine r_aald (pc := 5) (j := 0) rfl dJx4a65c_elementData_915e3_5 hF (fun hF => ?_)
  exact r_aret (pc := 6) (w := gO M b1 (ixn a1)) (Or.inl ⟨_, rfl⟩) dJx4a65c_elementData_915e3_6 hF
theorem k_Jx4a65c_elementData_915e3 (G : EG) (M : Mem) (a0 : Nat) (a1 : Int32) (q : Mem × Option Nat) (h : F_Jx4a65c_elementData_915e3 M a0 a1 = some q) : Kt yJx4a65c_elementData_915e3 P_Jx4a65c_elementData_915e3 M [(a0, 1)] [.ref a0, .int a1] (RR G q) := Kt.of (by decide +kernel) rfl (Nat.le_of_ble_eq_true rfl) rfl (fun X hz => w_Jx4a65c_elementData_915e3 M a0 a1 h)
set_option maxHeartbeats 4000000 in
theorem w_Jx4a65c_get_915e3 {X : Option Cx} {G : EG} {res : Mem × Option Nat} (M : Mem) (a0 : Nat) (a1 : Int32) (hF : F_Jx4a65c_get_915e3 M a0 a1 = some res) : T X (RR G res) P_Jx4a65c_get_915e3 M [(a0, 1)] [(0, .ref a0), (1, .int a1)] [] 0 := by
  unfold F_Jx4a65c_get_915e3 at hF
  refine r_iload_n (pc := 0) 1 dJx4a65c_get_915e3_0 rfl rfl ?_
  refine r_aload_n (pc := 1) 0 dJx4a65c_get_915e3_1 rfl rfl ?_
  refine gf_Jx4a65c_48 (pc := 2) (j := 0) rfl dJx4a65c_get_915e3_2 ?_
  refine r_callS_I (pc := 5) (Py := P_J15_checkIndex_7cf53) (n := 2) (As := [.int a1, .int (gI M 2 a0)]) (fun q e => k_J15_checkIndex_7cf53 G _ a1 (gI M 2 a0) q e) tw_351 tw_352 tw_72 tw_353 hd_J15_checkIndex_7cf53 ⟨Nat.le_of_ble_eq_true rfl, Nat.le_of_ble_eq_true rfl⟩ rfl [] rfl rfl (Nat.le_of_ble_eq_true rfl) dJx4a65c_get_915e3_5 hF (fun M1 r2 hF => ?_)
  refine r_pop (pc := 8) dJx4a65c_get_915e3_8 rfl ?_
  refine r_aload_n (pc := 9) 0 dJx4a65c_get_915e3_9 rfl rfl ?_
  refine r_iload_n (pc := 10) 1 dJx4a65c_get_915e3_10 rfl rfl ?_
  refine r_callV_R (pc := 11) (Py := P_Jx4a65c_elementData_915e3) (n := 1) (As := [.int a1]) (fun q e => k_Jx4a65c_elementData_915e3 G _ a0 a1 q e) (c := 0) (Tb := TJx4a65c) (N := 3) rfl (by decide) (j0 := 0) rfl tw_357 tw_358 tw_359 tw_64 tw_360 hd_Jx4a65c_elementData_915e3 ⟨Nat.le_of_ble_eq_true rfl, Nat.le_of_ble_eq_true rfl⟩ rfl [0] rfl rfl (Nat.le_of_ble_eq_true rfl) dJx4a65c_get_915e3_11 hF (fun M3 r4 hF => ?_)
  exact r_aret (pc := 14) (w := r4) (Or.inl ⟨_, rfl⟩) dJx4a65c_get_915e3_14 hF
theorem k_Jx4a65c_get_915e3 (G : EG) (M : Mem) (a0 : Nat) (a1 : Int32) (q : Mem × Option Nat) (h : F_Jx4a65c_get_915e3 M a0 a1 = some q) : Kt yJx4a65c_get_915e3 P_Jx4a65c_get_915e3 M [(a0, 1)] [.ref a0, .int a1] (RR G q) := Kt.of (by decide +kernel) rfl (Nat.le_of_ble_eq_true rfl) rfl (fun X hz => w_Jx4a65c_get_915e3 M a0 a1 h)
set_option maxHeartbeats 4000000 in
theorem w_Jxa1e45_init_da8c8 {X : Option Cx} {G : EG} {res : Mem × Unit} (hzi : ∀ x, X = some x → Zi x) (M : Mem) (a0 : Nat) (hF : F_Jxa1e45_init_da8c8 M a0 = some res) : T X (RV G res) P_Jxa1e45_init_da8c8 M [(a0, 1)] [(0, .ref a0)] [] 0 := by
  unfold F_Jxa1e45_init_da8c8 at hF
  refine r_aload_n (pc := 0) 0 dJxa1e45_init_da8c8_0 rfl rfl ?_
  refine r_objInit (pc := 1) tw_112 tw_93 tw_94 ⟨Nat.le_of_ble_eq_true rfl, Nat.le_of_ble_eq_true rfl⟩ (Nat.le_of_ble_eq_true rfl) dJxa1e45_init_da8c8_1 ?_
  exact r_vret (pc := 4) dJxa1e45_init_da8c8_4 hF
theorem k_Jxa1e45_init_da8c8 (G : EG) (M : Mem) (a0 : Nat) (q : Mem × Unit) (h : F_Jxa1e45_init_da8c8 M a0 = some q) : Kt yJxa1e45_init_da8c8 P_Jxa1e45_init_da8c8 M [(a0, 1)] [.ref a0] (RV G q) := Kt.of (by decide +kernel) rfl (Nat.le_of_ble_eq_true rfl) rfl (fun X hz => w_Jxa1e45_init_da8c8 (fun x hx => hz x hx rfl) M a0 h)
set_option maxHeartbeats 4000000 in
theorem w_Jxc12de_init_da8c8 {X : Option Cx} {G : EG} {res : Mem × Unit} (hzi : ∀ x, X = some x → Zi x) (M : Mem) (a0 : Nat) (hF : F_Jxc12de_init_da8c8 M a0 = some res) : T X (RV G res) P_Jxc12de_init_da8c8 M [(a0, 1)] [(0, .ref a0)] [] 0 := by
  unfold F_Jxc12de_init_da8c8 at hF
  refine r_aload_n (pc := 0) 0 dJxc12de_init_da8c8_0 rfl rfl ?_
  refine r_callI_V (pc := 1) (Py := P_Jxa1e45_init_da8c8) (n := 0) (As := []) (fun q e => k_Jxa1e45_init_da8c8 G _ a0 q e) tw_109 tw_110 tw_62 tw_111 rfl rfl hd_Jxa1e45_init_da8c8 ⟨Nat.le_of_ble_eq_true rfl, Nat.le_of_ble_eq_true rfl⟩ rfl [0] rfl rfl (Nat.le_of_ble_eq_true rfl) dJxc12de_init_da8c8_1 hF (fun M1 r2 hF => ?_)
  refine r_aload_n (pc := 4) 0 dJxc12de_init_da8c8_4 rfl rfl ?_
  refine r_iconst (pc := 5) (w := 0) dJxc12de_init_da8c8_5 (by decide) ?_
  refine pf_Jxc12de_7 (pc := 6) (j := 0) rfl dJxc12de_init_da8c8_6 hF (fun M3 hF => ?_)
  exact r_vret (pc := 9) dJxc12de_init_da8c8_9 hF
theorem k_Jxc12de_init_da8c8 (G : EG) (M : Mem) (a0 : Nat) (q : Mem × Unit) (h : F_Jxc12de_init_da8c8 M a0 = some q) : Kt yJxc12de_init_da8c8 P_Jxc12de_init_da8c8 M [(a0, 1)] [.ref a0] (RV G q) := Kt.of (by decide +kernel) rfl (Nat.le_of_ble_eq_true rfl) rfl (fun X hz => w_Jxc12de_init_da8c8 (fun x hx => hz x hx rfl) M a0 h)
set_option maxHeartbeats 4000000 in
theorem w_Jx4a65c_init_da8c8 {X : Option Cx} {G : EG} {res : Mem × Unit} (hzi : ∀ x, X = some x → Zi x) (M : Mem) (a0 : Nat) (hF : F_Jx4a65c_init_da8c8 M a0 = some res) : T X (RV G res) P_Jx4a65c_init_da8c8 M [(a0, 1)] [(0, .ref a0)] [] 0 := by
  unfold F_Jx4a65c_init_da8c8 at hF
  refine r_aload_n (pc := 0) 0 dJx4a65c_init_da8c8_0 rfl rfl ?_
  refine r_callI_V (pc := 1) (Py := P_Jxc12de_init_da8c8) (n := 0) (As := []) (fun q e => k_Jxc12de_init_da8c8 G _ a0 q e) tw_106 tw_107 tw_63 tw_108 rfl rfl hd_Jxc12de_init_da8c8 ⟨Nat.le_of_ble_eq_true rfl, Nat.le_of_ble_eq_true rfl⟩ rfl [0] rfl rfl (Nat.le_of_ble_eq_true rfl) dJx4a65c_init_da8c8_1 hF (fun M1 r2 hF => ?_)
  refine r_aload_n (pc := 4) 0 dJx4a65c_init_da8c8_4 rfl rfl ?_
  refine r_gstE (pc := 5) tw_113 dJx4a65c_init_da8c8_5 ?_
  refine pf_Jx4a65c_9 (pc := 8) (w := (some (gE M1))) (j := 0) rfl dJx4a65c_init_da8c8_8 hF (fun M3 hF => ?_)
  exact r_vret (pc := 11) dJx4a65c_init_da8c8_11 hF
theorem k_Jx4a65c_init_da8c8 (G : EG) (M : Mem) (a0 : Nat) (q : Mem × Unit) (h : F_Jx4a65c_init_da8c8 M a0 = some q) : Kt yJx4a65c_init_da8c8 P_Jx4a65c_init_da8c8 M [(a0, 1)] [.ref a0] (RV G q) := Kt.of (by decide +kernel) rfl (Nat.le_of_ble_eq_true rfl) rfl (fun X hz => w_Jx4a65c_init_da8c8 (fun x hx => hz x hx rfl) M a0 h)
set_option maxHeartbeats 4000000 in
theorem w_Jx4a65c_isEmpty_aae02_p12 {X : Option Cx} {G : EG} {res : Mem × Int32} : ∀ (M : Mem) (y0 : Int32), F_Jx4a65c_isEmpty_aae02_p12 M y0 = some res → T X (RI G res) P_Jx4a65c_isEmpty_aae02 M [] [] [.int y0] 12 := by
  intro M y0 hF
  unfold F_Jx4a65c_isEmpty_aae02_p12 at hF
  exact r_zret (pc := 12) dJx4a65c_isEmpty_aae02_12 hF
set_option maxHeartbeats 4000000 in
theorem w_Jx4a65c_isEmpty_aae02 {X : Option Cx} {G : EG} {res : Mem × Int32} (M : Mem) (a0 : Nat) (hF : F_Jx4a65c_isEmpty_aae02 M a0 = some res) : T X (RI G res) P_Jx4a65c_isEmpty_aae02 M [(a0, 1)] [(0, .ref a0)] [] 0 := by
  unfold F_Jx4a65c_isEmpty_aae02 at hF
  refine r_aload_n (pc := 0) 0 dJx4a65c_isEmpty_aae02_0 rfl rfl ?_
  refine gf_Jx4a65c_48 (pc := 1) (j := 0) rfl dJx4a65c_isEmpty_aae02_1 ?_
  refine r_if_ne (pc := 4) (tgt := 11) dJx4a65c_isEmpty_aae02_4 rfl hF (fun hF => ?_) (fun hF => ?_)
  · refine r_iconst (pc := 11) (w := 0) dJx4a65c_isEmpty_aae02_11 (by decide) ?_
    exact T.sub ((w_Jx4a65c_isEmpty_aae02_p12) M (0 : Int32) hF) [] [] rfl rfl
  · refine r_iconst (pc := 7) (w := 1) dJx4a65c_isEmpty_aae02_7 (by decide) ?_
    refine r_goto (pc := 8) (tgt := 12) dJx4a65c_isEmpty_aae02_8 rfl ?_
    exact T.sub ((w_Jx4a65c_isEmpty_aae02_p12) M (1 : Int32) hF) [] [] rfl rfl
theorem k_Jx4a65c_isEmpty_aae02 (G : EG) (M : Mem) (a0 : Nat) (q : Mem × Int32) (h : F_Jx4a65c_isEmpty_aae02 M a0 = some q) : Kt yJx4a65c_isEmpty_aae02 P_Jx4a65c_isEmpty_aae02 M [(a0, 1)] [.ref a0] (RI G q) := Kt.of (by decide +kernel) rfl (Nat.le_of_ble_eq_true rfl) rfl (fun X hz => w_Jx4a65c_isEmpty_aae02 M a0 h)
set_option maxHeartbeats 4000000 in
theorem w_Jx4a65c_size_8abf5 {X : Option Cx} {G : EG} {res : Mem × Int32} (M : Mem) (a0 : Nat) (hF : F_Jx4a65c_size_8abf5 M a0 = some res) : T X (RI G res) P_Jx4a65c_size_8abf5 M [(a0, 1)] [(0, .ref a0)] [] 0 := by
  unfold F_Jx4a65c_size_8abf5 at hF
  refine r_aload_n (pc := 0) 0 dJx4a65c_size_8abf5_0 rfl rfl ?_
  refine gf_Jx4a65c_48 (pc := 1) (j := 0) rfl dJx4a65c_size_8abf5_1 ?_
  exact r_iret (pc := 4) dJx4a65c_size_8abf5_4 hF
theorem k_Jx4a65c_size_8abf5 (G : EG) (M : Mem) (a0 : Nat) (q : Mem × Int32) (h : F_Jx4a65c_size_8abf5 M a0 = some q) : Kt yJx4a65c_size_8abf5 P_Jx4a65c_size_8abf5 M [(a0, 1)] [.ref a0] (RI G q) := Kt.of (by decide +kernel) rfl (Nat.le_of_ble_eq_true rfl) rfl (fun X hz => w_Jx4a65c_size_8abf5 M a0 h)
set_option maxHeartbeats 4000000 in
theorem w_X4_follow {X : Option Cx} {G : EG} {res : Mem × Unit} (M : Mem) (a0 : Nat) (a1 : Nat) (hF : F_X4_follow M a0 a1 = some res) : T X (RV G res) P_X4_follow M [(a0, 6), (a1, 6)] [(0, .ref a0), (1, .ref a1)] [] 0 := by
  unfold F_X4_follow at hF
  refine r_aload_n (pc := 0) 0 dX4_follow_0 rfl rfl ?_
  refine r_aload_n (pc := 1) 1 dX4_follow_1 rfl rfl ?_
  refine gf_X4_18 (pc := 2) (j := 1) rfl dX4_follow_2 ?_
  refine pf_X4_18 (pc := 5) (j := 0) rfl dX4_follow_5 hF (fun M1 hF => ?_)
  refine r_aload_n (pc := 8) 0 dX4_follow_8 rfl rfl ?_
  refine r_aload_n (pc := 9) 1 dX4_follow_9 rfl rfl ?_
  refine gf_X4_27 (pc := 10) (j := 1) rfl dX4_follow_10 ?_
  refine pf_X4_27 (pc := 13) (j := 0) rfl dX4_follow_13 hF (fun M2 hF => ?_)
  refine r_aload_n (pc := 16) 0 dX4_follow_16 rfl rfl ?_
  refine r_lconst (pc := 17) (w := 0) dX4_follow_17 (by decide) ?_
  refine pf_X4_30 (pc := 18) (j := 0) rfl dX4_follow_18 hF (fun M3 hF => ?_)
  exact r_vret (pc := 21) dX4_follow_21 hF
theorem k_X4_follow (G : EG) (M : Mem) (a0 : Nat) (a1 : Nat) (q : Mem × Unit) (h : F_X4_follow M a0 a1 = some q) : Kt yX4_follow P_X4_follow M [(a0, 6), (a1, 6)] [.ref a0, .ref a1] (RV G q) := Kt.of (by decide +kernel) rfl (Nat.le_of_ble_eq_true rfl) rfl (fun X hz => w_X4_follow M a0 a1 h)
set_option maxHeartbeats 4000000 in
theorem w_X0_follow_p34 {X : Option Cx} {G : EG} {res : Mem × Unit} {k87 : Mem → Option (Mem × Unit)} (hk87 : ∀ (M : Mem), k87 M = some res → T X (RV G res) P_X0_follow M [] [] [] 87) : ∀ (n : Nat) (M : Mem) (x0 : Nat) (x1 : Nat) (x2 : Int32), F_X0_follow_p34 k87 n M x0 x1 x2 = some res → T X (RV G res) P_X0_follow M [(x0, 2), (x1, 2)] [(0, .ref x0), (1, .ref x1), (2, .int x2)] [] 34 := by
  intro n
  induction n with
  | zero =>
    intro M x0 x1 x2 hF
    cases hF
  | succ n ih =>
    intro M x0 x1 x2 hF
    unfold F_X0_follow_p34 at hF
    refine r_iload_n (pc := 34) 2 dX0_follow_34 rfl rfl ?_
    refine r_aload_n (pc := 35) 0 dX0_follow_35 rfl rfl ?_
    refine gf_X0_12 (pc := 36) (j := 0) rfl dX0_follow_36 ?_
    refine r_lr (by decide) hF (fun b1 hF => ?_)
    refine r_callV_I (pc := 39) (Py := P_Jx4a65c_size_8abf5) (n := 0) (As := []) (fun q e => k_Jx4a65c_size_8abf5 G _ b1 q e) (c := 0) (Tb := TJx4a65c) (N := 3) rfl (by decide) (j0 := 0) rfl tw_383 tw_344 tw_345 tw_64 tw_346 hd_Jx4a65c_size_8abf5 ⟨Nat.le_of_ble_eq_true rfl, Nat.le_of_ble_eq_true rfl⟩ rfl [0] rfl rfl (Nat.le_of_ble_eq_true rfl) dX0_follow_39 hF (fun M2 r3 hF => ?_)
    refine r_icmp_ge (pc := 42) (tgt := 87) dX0_follow_42 rfl hF (fun hF => ?_) (fun hF => ?_)
    · exact T.sub (hk87 M2 hF) [] [] rfl rfl
    · refine r_iload_n (pc := 45) 2 dX0_follow_45 rfl rfl ?_
      refine r_aload_n (pc := 46) 1 dX0_follow_46 rfl rfl ?_
      refine gf_X0_12 (pc := 47) (j := 2) rfl dX0_follow_47 ?_
      refine r_lr (by decide) hF (fun b4 hF => ?_)
      refine r_callV_I (pc := 50) (Py := P_Jx4a65c_size_8abf5) (n := 0) (As := []) (fun q e => k_Jx4a65c_size_8abf5 G _ b4 q e) (c := 0) (Tb := TJx4a65c) (N := 3) rfl (by decide) (j0 := 0) rfl tw_383 tw_344 tw_345 tw_64 tw_346 hd_Jx4a65c_size_8abf5 ⟨Nat.le_of_ble_eq_true rfl, Nat.le_of_ble_eq_true rfl⟩ rfl [0] rfl rfl (Nat.le_of_ble_eq_true rfl) dX0_follow_50 hF (fun M5 r6 hF => ?_)
      refine r_icmp_ge (pc := 53) (tgt := 87) dX0_follow_53 rfl hF (fun hF => ?_) (fun hF => ?_)
      · exact T.sub (hk87 M5 hF) [] [] rfl rfl
      · refine r_aload_n (pc := 56) 0 dX0_follow_56 rfl rfl ?_
        refine gf_X0_12 (pc := 57) (j := 2) rfl dX0_follow_57 ?_
        refine r_lr (by decide) hF (fun b7 hF => ?_)
        refine r_iload_n (pc := 60) 2 dX0_follow_60 rfl rfl ?_
        refine r_callV_R (pc := 61) (Py := P_Jx4a65c_get_915e3) (n := 1) (As := [.int x2]) (fun q e => k_Jx4a65c_get_915e3 G _ b7 x2 q e) (c := 0) (Tb := TJx4a65c) (N := 3) rfl (by decide) (j0 := 0) rfl tw_384 tw_348 tw_349 tw_64 tw_350 hd_Jx4a65c_get_915e3 ⟨Nat.le_of_ble_eq_true rfl, Nat.le_of_ble_eq_true rfl⟩ rfl [0] rfl rfl (Nat.le_of_ble_eq_true rfl) dX0_follow_61 hF (fun M8 r9 hF => ?_)
        refine r_lr (by decide) hF (fun b10 hF => ?_)
        refine r_cast (pc := 64) (c := 5) (Tb := TX4) (N := 5) rfl (by decide) (j := 0) rfl tw_385 dX0_follow_64 ?_
        refine r_aload_n (pc := 67) 1 dX0_follow_67 rfl rfl ?_
        refine gf_X0_12 (pc := 68) (j := 5) rfl dX0_follow_68 ?_
        refine r_lr (by decide) hF (fun b11 hF => ?_)
        refine r_iload_n (pc := 71) 2 dX0_follow_71 rfl rfl ?_
        refine r_callV_R (pc := 72) (Py := P_Jx4a65c_get_915e3) (n := 1) (As := [.int x2]) (fun q e => k_Jx4a65c_get_915e3 G _ b11 x2 q e) (c := 0) (Tb := TJx4a65c) (N := 3) rfl (by decide) (j0 := 0) rfl tw_384 tw_348 tw_349 tw_64 tw_350 hd_Jx4a65c_get_915e3 ⟨Nat.le_of_ble_eq_true rfl, Nat.le_of_ble_eq_true rfl⟩ rfl [0] rfl rfl (Nat.le_of_ble_eq_true rfl) dX0_follow_72 hF (fun M12 r13 hF => ?_)
        refine r_lr (by decide) hF (fun b14 hF => ?_)
        refine r_cast (pc := 75) (c := 5) (Tb := TX4) (N := 5) rfl (by decide) (j := 0) rfl tw_385 dX0_follow_75 ?_
        refine r_callV_V (pc := 78) (Py := P_X4_follow) (n := 1) (As := [.ref b14]) (fun q e => k_X4_follow G _ b10 b14 q e) (c := 5) (Tb := TX4) (N := 5) rfl (by decide) (j0 := 2) rfl tw_960 tw_961 tw_962 tw_75 tw_963 hd_X4_follow ⟨Nat.le_of_ble_eq_true rfl, Nat.le_of_ble_eq_true rfl⟩ rfl [2, 0] rfl rfl (Nat.le_of_ble_eq_true rfl) dX0_follow_78 hF (fun M15 r16 hF => ?_)
        obtain ⟨v17, e9, hF⟩ := bnd_e hF
        refine r_iinc (pc := 81) (w := v17) (k := 2) (L1 := [(2, .int v17), (0, .ref x0), (1, .ref x1)]) dX0_follow_81 rfl (by rw [e9]; rfl) (by decide) rfl ?_
        clear e9
        refine r_goto (pc := 84) (tgt := 34) dX0_follow_84 rfl ?_
        exact T.sub (ih M15 x0 x1 v17 hF) [6, 7] [1, 2, 0] rfl rfl
set_option maxHeartbeats 4000000 in
theorem w_X0_follow_p87 {X : Option Cx} {G : EG} {res : Mem × Unit} : ∀ (M : Mem), F_X0_follow_p87 M = some res → T X (RV G res) P_X0_follow M [] [] [] 87 := by
  intro M hF
  unfold F_X0_follow_p87 at hF
  exact r_vret (pc := 87) dX0_follow_87 hF
set_option maxHeartbeats 4000000 in
theorem w_X0_follow {X : Option Cx} {G : EG} {res : Mem × Unit} (M : Mem) (a0 : Nat) (a1 : Nat) (hF : F_X0_follow M a0 a1 = some res) : T X (RV G res) P_X0_follow M [(a0, 2), (a1, 2)] [(0, .ref a0), (1, .ref a1)] [] 0 := by
  unfold F_X0_follow at hF
  refine r_aload_n (pc := 0) 0 dX0_follow_0 rfl rfl ?_
  refine r_aload_n (pc := 1) 1 dX0_follow_1 rfl rfl ?_
  refine gf_X0_65 (pc := 2) (j := 1) rfl dX0_follow_2 ?_
  refine pf_X0_65 (pc := 5) (j := 0) rfl dX0_follow_5 hF (fun M1 hF => ?_)
  refine r_aload_n (pc := 8) 0 dX0_follow_8 rfl rfl ?_
  refine r_aload_n (pc := 9) 1 dX0_follow_9 rfl rfl ?_
  refine gf_X0_87 (pc := 10) (j := 1) rfl dX0_follow_10 ?_
  refine pf_X0_87 (pc := 13) (j := 0) rfl dX0_follow_13 hF (fun M2 hF => ?_)
  refine r_aload_n (pc := 16) 0 dX0_follow_16 rfl rfl ?_
  refine r_aload_n (pc := 17) 1 dX0_follow_17 rfl rfl ?_
  refine gf_X0_18 (pc := 18) (j := 1) rfl dX0_follow_18 ?_
  refine pf_X0_18 (pc := 21) (j := 0) rfl dX0_follow_21 hF (fun M3 hF => ?_)
  refine r_aload_n (pc := 24) 0 dX0_follow_24 rfl rfl ?_
  refine r_aload_n (pc := 25) 1 dX0_follow_25 rfl rfl ?_
  refine gf_X0_99 (pc := 26) (j := 1) rfl dX0_follow_26 ?_
  refine pf_X0_99 (pc := 29) (j := 0) rfl dX0_follow_29 hF (fun M4 hF => ?_)
  refine r_iconst (pc := 32) (w := 0) dX0_follow_32 (by decide) ?_
  refine r_istore_n (pc := 33) (L1 := [(2, .int ((0 : Int32))), (0, .ref a0), (1, .ref a1)]) dX0_follow_33 rfl (by decide) rfl ?_
  exact T.sub ((w_X0_follow_p34 (w_X0_follow_p87) FU) M4 a0 a1 (0 : Int32) hF) [0, 1] [1, 2, 0] rfl rfl
theorem k_X0_follow (G : EG) (M : Mem) (a0 : Nat) (a1 : Nat) (q : Mem × Unit) (h : F_X0_follow M a0 a1 = some q) : Kt yX0_follow P_X0_follow M [(a0, 2), (a1, 2)] [.ref a0, .ref a1] (RV G q) := Kt.of (by decide +kernel) rfl (Nat.le_of_ble_eq_true rfl) rfl (fun X hz => w_X0_follow M a0 a1 h)
set_option maxHeartbeats 4000000 in
theorem w_X11_cut_p13 {X : Option Cx} {G : EG} {res : Mem × Int64} : ∀ (M : Mem) (y0 : Int64), F_X11_cut_p13 M y0 = some res → T X (RJ G res) P_X11_cut M [] [] [.long y0] 13 := by
  intro M y0 hF
  unfold F_X11_cut_p13 at hF
  exact r_lret (pc := 13) dX11_cut_13 hF
set_option maxHeartbeats 4000000 in
theorem w_X11_cut {X : Option Cx} {G : EG} {res : Mem × Int64} (M : Mem) (a0 : Int64) (a1 : Int64) (hF : F_X11_cut M a0 a1 = some res) : T X (RJ G res) P_X11_cut M [] [(0, .long a0), (2, .long a1)] [] 0 := by
  unfold F_X11_cut at hF
  refine r_lload_n (pc := 0) 1 dX11_cut_0 rfl rfl ?_
  refine r_lconst (pc := 1) (w := 0) dX11_cut_1 (by decide) ?_
  refine r_lcmp (pc := 2) dX11_cut_2 ?_
  refine r_if_ne (pc := 3) (tgt := 10) dX11_cut_3 rfl hF (fun hF => ?_) (fun hF => ?_)
  · refine r_lload_n (pc := 10) 0 dX11_cut_10 rfl rfl ?_
    refine r_lload_n (pc := 11) 1 dX11_cut_11 rfl rfl ?_
    refine r_ldiv (pc := 12) dX11_cut_12 hF (fun hF => ?_)
    exact T.sub ((w_X11_cut_p13) M (a0 / a1) hF) [] [] rfl rfl
  · refine r_lconst (pc := 6) (w := 0) dX11_cut_6 (by decide) ?_
    refine r_goto (pc := 7) (tgt := 13) dX11_cut_7 rfl ?_
    exact T.sub ((w_X11_cut_p13) M (0 : Int64) hF) [] [] rfl rfl
theorem k_X11_cut (G : EG) (M : Mem) (a0 : Int64) (a1 : Int64) (q : Mem × Int64) (h : F_X11_cut M a0 a1 = some q) : Kt yX11_cut P_X11_cut M [] [.long a0, .long a1] (RJ G q) := Kt.of (by decide +kernel) rfl (Nat.le_of_ble_eq_true rfl) rfl (fun X hz => w_X11_cut M a0 a1 h)
set_option maxHeartbeats 4000000 in
theorem w_X4_init {X : Option Cx} {G : EG} {res : Mem × Unit} (hzi : ∀ x, X = some x → Zi x) (M : Mem) (a0 : Nat) (a1 : Int64) (a2 : Int64) (hF : F_X4_init M a0 a1 a2 = some res) : T X (RV G res) P_X4_init M [(a0, 6)] [(0, .ref a0), (1, .long a1), (3, .long a2)] [] 0 := by
  unfold F_X4_init at hF
  refine r_aload_n (pc := 0) 0 dX4_init_0 rfl rfl ?_
  refine r_objInit (pc := 1) tw_483 tw_93 tw_94 ⟨Nat.le_of_ble_eq_true rfl, Nat.le_of_ble_eq_true rfl⟩ (Nat.le_of_ble_eq_true rfl) dX4_init_1 ?_
  refine r_aload_n (pc := 4) 0 dX4_init_4 rfl rfl ?_
  refine r_lload_n (pc := 5) 1 dX4_init_5 rfl rfl ?_
  refine pf_X4_7 (pc := 6) hzi (j := 0) rfl dX4_init_6 hF (fun M1 hF => ?_)
  refine r_aload_n (pc := 9) 0 dX4_init_9 rfl rfl ?_
  refine r_ldc2 (pc := 10) (w := 1000) tw_484 dX4_init_10 ?_
  refine r_lload_n (pc := 13) 2 dX4_init_13 rfl rfl ?_
  refine r_lmul (pc := 14) dX4_init_14 ?_
  refine r_lload_n (pc := 15) 1 dX4_init_15 rfl rfl ?_
  refine r_lmul (pc := 16) dX4_init_16 ?_
  refine pf_X4_15 (pc := 17) hzi (j := 0) rfl dX4_init_17 hF (fun M2 hF => ?_)
  refine r_aload_n (pc := 20) 0 dX4_init_20 rfl rfl ?_
  refine r_aload_n (pc := 21) 0 dX4_init_21 rfl rfl ?_
  refine gf_X4_15 (pc := 22) (j := 0) rfl dX4_init_22 ?_
  refine pf_X4_18 (pc := 25) (j := 0) rfl dX4_init_25 hF (fun M3 hF => ?_)
  refine r_aload_n (pc := 28) 0 dX4_init_28 rfl rfl ?_
  refine r_aload_n (pc := 29) 0 dX4_init_29 rfl rfl ?_
  refine gf_X4_15 (pc := 30) (j := 0) rfl dX4_init_30 ?_
  refine r_lload_n (pc := 33) 1 dX4_init_33 rfl rfl ?_
  refine r_callSN_J (pc := 34) (Py := P_X11_cut) (n := 2) (As := [.long (gJ M3 501 a0), .long a1]) (fun q e => k_X11_cut G _ (gJ M3 501 a0) a1 q e) tw_465 tw_400 tw_60 tw_401 hd_X11_cut ⟨Nat.le_of_ble_eq_true rfl, Nat.le_of_ble_eq_true rfl⟩ rfl [] rfl rfl (Nat.le_of_ble_eq_true rfl) dX4_init_34 hF (fun M4 r5 hF => ?_)
  refine pf_X4_27 (pc := 37) (j := 0) rfl dX4_init_37 hF (fun M6 hF => ?_)
  exact r_vret (pc := 40) dX4_init_40 hF
theorem k_X4_init (G : EG) (M : Mem) (a0 : Nat) (a1 : Int64) (a2 : Int64) (q : Mem × Unit) (h : F_X4_init M a0 a1 a2 = some q) : Kt yX4_init P_X4_init M [(a0, 6)] [.ref a0, .long a1, .long a2] (RV G q) := Kt.of (by decide +kernel) rfl (Nat.le_of_ble_eq_true rfl) rfl (fun X hz => w_X4_init (fun x hx => hz x hx rfl) M a0 a1 a2 h)
set_option maxHeartbeats 4000000 in
theorem w_X0_init_p85 {X : Option Cx} {G : EG} {res : Mem × Unit} (hzi : ∀ x, X = some x → Zi x) {k128 : Mem → Nat → Nat → Option (Mem × Unit)} (hk128 : ∀ (M : Mem) (x0 : Nat) (x7 : Nat), k128 M x0 x7 = some res → T X (RV G res) P_X0_init M [(x0, 2), (x7, 6)] [(0, .ref x0), (7, .ref x7)] [] 128) : ∀ (n : Nat) (M : Mem) (x0 : Nat) (x3 : Int32) (x4 : Int32) (x5 : Int32) (x6 : Int32) (x7 : Nat) (x8 : Int32), F_X0_init_p85 k128 n M x0 x3 x4 x5 x6 x7 x8 = some res → T X (RV G res) P_X0_init M [(x0, 2), (x7, 6)] [(0, .ref x0), (3, .int x3), (4, .int x4), (5, .int x5), (6, .int x6), (7, .ref x7), (8, .int x8)] [] 85 := by
  intro n
  induction n with
  | zero =>
    intro M x0 x3 x4 x5 x6 x7 x8 hF
    cases hF
  | succ n ih =>
    intro M x0 x3 x4 x5 x6 x7 x8 hF
    unfold F_X0_init_p85 at hF
    refine r_iload (pc := 85) 6 dX0_init_85 rfl ?_
    refine r_iload_n (pc := 87) 1 dX0_init_87 rfl rfl ?_
    refine r_icmp_ge (pc := 88) (tgt := 128) dX0_init_88 rfl hF (fun hF => ?_) (fun hF => ?_)
    · exact T.sub (hk128 M x0 x7 hF) [0, 1] [0, 5] rfl rfl
    · refine r_new (pc := 91) (c := 5) (N := 5) tin_X4 tyX4 tyX4_ok rfl rfl (by decide) tw_385 tw_479 tw_75 (by decide +kernel) dX0_init_91 hF (fun b1 M2 hF => ?_)
      refine r_dup (pc := 94) dX0_init_94 rfl ?_
      refine r_iload (pc := 95) 2 dX0_init_95 rfl ?_
      refine r_iload (pc := 97) 6 dX0_init_97 rfl ?_
      refine r_iload (pc := 99) 3 dX0_init_99 rfl ?_
      refine r_imul (pc := 101) dX0_init_101 ?_
      refine r_iadd (pc := 102) dX0_init_102 ?_
      refine r_i2l (pc := 103) dX0_init_103 ?_
      refine r_iload (pc := 104) 4 dX0_init_104 rfl ?_
      refine r_i2l (pc := 106) dX0_init_106 ?_
      refine r_callI_V (pc := 107) (Py := P_X4_init) (n := 2) (As := [.long ((x4 + (x8 * x5)).toInt64), .long (x6.toInt64)]) (fun q e => k_X4_init G _ b1 ((x4 + (x8 * x5)).toInt64) (x6.toInt64) q e) tw_480 tw_481 tw_75 tw_482 rfl rfl hd_X4_init ⟨Nat.le_of_ble_eq_true rfl, Nat.le_of_ble_eq_true rfl⟩ rfl [0] rfl rfl (Nat.le_of_ble_eq_true rfl) dX0_init_107 hF (fun M3 r4 hF => ?_)
      refine r_astore (pc := 110) (L1 := [(7, .ref b1), (0, .ref x0), (3, .int x3), (4, .int x4), (5, .int x5), (6, .int x6), (8, .int x8)]) dX0_init_110 (by decide) rfl ?_
      refine r_aload_n (pc := 112) 1 dX0_init_112 rfl rfl ?_
      refine gf_X0_12 (pc := 113) (j := 1) rfl dX0_init_113 ?_
      refine r_lr (by decide) hF (fun b5 hF => ?_)
      refine r_aload (pc := 116) 0 dX0_init_116 rfl ?_
      refine r_callV_I (pc := 118) (Py := P_Jx4a65c_add_9ea2d) (n := 1) (As := [.ref b1]) (fun q e => k_Jx4a65c_add_9ea2d G _ b5 b1 q e) (c := 0) (Tb := TJx4a65c) (N := 3) rfl (by decide) (j0 := 0) rfl tw_512 tw_513 tw_514 tw_64 tw_515 hd_Jx4a65c_add_9ea2d ⟨Nat.le_of_ble_eq_true rfl, Nat.le_of_ble_eq_true rfl⟩ rfl [0] rfl rfl (Nat.le_of_ble_eq_true rfl) dX0_init_118 hF (fun M6 r7 hF => ?_)
      refine r_pop (pc := 121) dX0_init_121 rfl ?_
      obtain ⟨v8, e9, hF⟩ := bnd_e hF
      refine r_iinc (pc := 122) (w := v8) (k := 6) (L1 := [(8, .int v8), (7, .ref b1), (0, .ref x0), (3, .int x3), (4, .int x4), (5, .int x5), (6, .int x6)]) dX0_init_122 rfl (by rw [e9]; rfl) (by decide) rfl ?_
      clear e9
      refine r_goto (pc := 125) (tgt := 85) dX0_init_125 rfl ?_
      exact T.sub (ih M6 x0 x3 x4 x5 x6 b1 v8 hF) [2, 1] [2, 3, 4, 5, 6, 1, 0] rfl rfl
set_option maxHeartbeats 4000000 in
theorem w_X0_init_p128 {X : Option Cx} {G : EG} {res : Mem × Unit} (hzi : ∀ x, X = some x → Zi x) : ∀ (M : Mem) (x0 : Nat) (x7 : Nat), F_X0_init_p128 M x0 x7 = some res → T X (RV G res) P_X0_init M [(x0, 2), (x7, 6)] [(0, .ref x0), (7, .ref x7)] [] 128 := by
  intro M x0 x7 hF
  unfold F_X0_init_p128 at hF
  refine r_aload_n (pc := 128) 0 dX0_init_128 rfl rfl ?_
  refine r_aload (pc := 129) 1 dX0_init_129 rfl ?_
  refine pf_X0_48 (pc := 131) hzi (w := (some x7)) (j := 0) rfl dX0_init_131 hF (fun M1 hF => ?_)
  exact r_vret (pc := 134) dX0_init_134 hF
set_option maxHeartbeats 4000000 in
theorem w_X0_init {X : Option Cx} {G : EG} {res : Mem × Unit} (hzi : ∀ x, X = some x → Zi x) (M : Mem) (a0 : Nat) (a1 : Int32) (a2 : Int32) (a3 : Int32) (a4 : Int32) (a5 : Int32) (a6 : Int32) (hF : F_X0_init M a0 a1 a2 a3 a4 a5 a6 = some res) : T X (RV G res) P_X0_init M [(a0, 2)] [(0, .ref a0), (1, .int a1), (2, .int a2), (3, .int a3), (4, .int a4), (5, .int a5), (6, .int a6)] [] 0 := by
  unfold F_X0_init at hF
  refine r_aload_n (pc := 0) 0 dX0_init_0 rfl rfl ?_
  refine r_objInit (pc := 1) tw_476 tw_93 tw_94 ⟨Nat.le_of_ble_eq_true rfl, Nat.le_of_ble_eq_true rfl⟩ (Nat.le_of_ble_eq_true rfl) dX0_init_1 ?_
  refine r_aload_n (pc := 4) 0 dX0_init_4 rfl rfl ?_
  refine r_new (pc := 5) (c := 0) (N := 3) tin_Jx4a65c tyJx4a65c tyJx4a65c_ok rfl rfl (by decide) tw_477 tw_102 tw_64 (by decide +kernel) dX0_init_5 hF (fun b1 M2 hF => ?_)
  refine r_dup (pc := 8) dX0_init_8 rfl ?_
  refine r_callI_V (pc := 9) (Py := P_Jx4a65c_init_da8c8) (n := 0) (As := []) (fun q e => k_Jx4a65c_init_da8c8 G _ b1 q e) tw_478 tw_104 tw_64 tw_105 rfl rfl hd_Jx4a65c_init_da8c8 ⟨Nat.le_of_ble_eq_true rfl, Nat.le_of_ble_eq_true rfl⟩ rfl [0] rfl rfl (Nat.le_of_ble_eq_true rfl) dX0_init_9 hF (fun M3 r4 hF => ?_)
  refine pf_X0_12 (pc := 12) hzi (w := (some b1)) (j := 1) rfl dX0_init_12 hF (fun M5 hF => ?_)
  refine r_aload_n (pc := 15) 0 dX0_init_15 rfl rfl ?_
  refine r_iconst (pc := 16) (w := 1) dX0_init_16 (by decide) ?_
  refine pf_X0_18 (pc := 17) (j := 1) rfl dX0_init_17 hF (fun M6 hF => ?_)
  refine r_aload_n (pc := 20) 0 dX0_init_20 rfl rfl ?_
  refine r_iload_n (pc := 21) 1 dX0_init_21 rfl rfl ?_
  refine pf_X0_22 (pc := 22) hzi (j := 1) rfl dX0_init_22 hF (fun M7 hF => ?_)
  refine r_aload_n (pc := 25) 0 dX0_init_25 rfl rfl ?_
  refine r_iload_n (pc := 26) 2 dX0_init_26 rfl rfl ?_
  refine r_bipush (pc := 27) (w := 100) dX0_init_27 (by decide) ?_
  refine r_idivc (pc := 29) dX0_init_29 (by decide) ?_
  refine pf_X0_26 (pc := 30) hzi (j := 1) rfl dX0_init_30 hF (fun M8 hF => ?_)
  refine r_aload_n (pc := 33) 0 dX0_init_33 rfl rfl ?_
  refine r_iload_n (pc := 34) 2 dX0_init_34 rfl rfl ?_
  refine r_bipush (pc := 35) (w := 100) dX0_init_35 (by decide) ?_
  refine r_iremc (pc := 37) dX0_init_37 (by decide) ?_
  refine pf_X0_29 (pc := 38) hzi (j := 1) rfl dX0_init_38 hF (fun M9 hF => ?_)
  refine r_aload_n (pc := 41) 0 dX0_init_41 rfl rfl ?_
  refine r_iload (pc := 42) 6 dX0_init_42 rfl ?_
  refine pf_X0_32 (pc := 44) hzi (j := 1) rfl dX0_init_44 hF (fun M10 hF => ?_)
  refine r_aload_n (pc := 47) 0 dX0_init_47 rfl rfl ?_
  refine r_new (pc := 48) (c := 5) (N := 5) tin_X4 tyX4 tyX4_ok rfl rfl (by decide) tw_385 tw_479 tw_75 (by decide +kernel) dX0_init_48 hF (fun b11 M12 hF => ?_)
  refine r_dup (pc := 51) dX0_init_51 rfl ?_
  refine r_iload (pc := 52) 4 dX0_init_52 rfl ?_
  refine r_i2l (pc := 54) dX0_init_54 ?_
  refine r_iload (pc := 55) 6 dX0_init_55 rfl ?_
  refine r_i2l (pc := 57) dX0_init_57 ?_
  refine r_callI_V (pc := 58) (Py := P_X4_init) (n := 2) (As := [.long (a4.toInt64), .long (a6.toInt64)]) (fun q e => k_X4_init G _ b11 (a4.toInt64) (a6.toInt64) q e) tw_480 tw_481 tw_75 tw_482 rfl rfl hd_X4_init ⟨Nat.le_of_ble_eq_true rfl, Nat.le_of_ble_eq_true rfl⟩ rfl [0] rfl rfl (Nat.le_of_ble_eq_true rfl) dX0_init_58 hF (fun M13 r14 hF => ?_)
  refine pf_X0_40 (pc := 61) hzi (w := (some b11)) (j := 2) rfl dX0_init_61 hF (fun M15 hF => ?_)
  refine r_aload_n (pc := 64) 0 dX0_init_64 rfl rfl ?_
  refine gf_X0_12 (pc := 65) (j := 2) rfl dX0_init_65 ?_
  refine r_lr (by decide) hF (fun b16 hF => ?_)
  refine r_aload_n (pc := 68) 0 dX0_init_68 rfl rfl ?_
  refine gf_X0_40 (pc := 69) (j := 3) rfl dX0_init_69 ?_
  refine r_lr (by decide) hF (fun b17 hF => ?_)
  refine r_callV_I (pc := 72) (Py := P_Jx4a65c_add_9ea2d) (n := 1) (As := [.ref b17]) (fun q e => k_Jx4a65c_add_9ea2d G _ b16 b17 q e) (c := 0) (Tb := TJx4a65c) (N := 3) rfl (by decide) (j0 := 1) rfl tw_512 tw_513 tw_514 tw_64 tw_515 hd_Jx4a65c_add_9ea2d ⟨Nat.le_of_ble_eq_true rfl, Nat.le_of_ble_eq_true rfl⟩ rfl [1] rfl rfl (Nat.le_of_ble_eq_true rfl) dX0_init_72 hF (fun M18 r19 hF => ?_)
  refine r_pop (pc := 75) dX0_init_75 rfl ?_
  refine r_aload_n (pc := 76) 0 dX0_init_76 rfl rfl ?_
  refine gf_X0_40 (pc := 77) (j := 4) rfl dX0_init_77 ?_
  refine r_lr (by decide) hF (fun b20 hF => ?_)
  refine r_astore (pc := 80) (L1 := [(7, .ref b20), (0, .ref a0), (1, .int a1), (2, .int a2), (3, .int a3), (4, .int a4), (5, .int a5), (6, .int a6)]) dX0_init_80 (by decide) rfl ?_
  refine r_iconst (pc := 82) (w := 1) dX0_init_82 (by decide) ?_
  refine r_istore (pc := 83) (L1 := [(8, .int ((1 : Int32))), (7, .ref b20), (0, .ref a0), (1, .int a1), (2, .int a2), (3, .int a3), (4, .int a4), (5, .int a5), (6, .int a6)]) dX0_init_83 (by decide) rfl ?_
  exact T.sub ((w_X0_init_p85 hzi (w_X0_init_p128 hzi) FU) M18 a0 a3 a4 a5 a6 b20 (1 : Int32) hF) [5, 0] [2, 5, 6, 7, 8, 1, 0] rfl rfl
theorem k_X0_init (G : EG) (M : Mem) (a0 : Nat) (a1 : Int32) (a2 : Int32) (a3 : Int32) (a4 : Int32) (a5 : Int32) (a6 : Int32) (q : Mem × Unit) (h : F_X0_init M a0 a1 a2 a3 a4 a5 a6 = some q) : Kt yX0_init P_X0_init M [(a0, 2)] [.ref a0, .int a1, .int a2, .int a3, .int a4, .int a5, .int a6] (RV G q) := Kt.of (by decide +kernel) rfl (Nat.le_of_ble_eq_true rfl) rfl (fun X hz => w_X0_init (fun x hx => hz x hx rfl) M a0 a1 a2 a3 a4 a5 a6 h)
set_option maxHeartbeats 4000000 in
theorem w_X0_isFrozen_p17 {X : Option Cx} {G : EG} {res : Mem × Int32} : ∀ (M : Mem) (y0 : Int32), F_X0_isFrozen_p17 M y0 = some res → T X (RI G res) P_X0_isFrozen M [] [] [.int y0] 17 := by
  intro M y0 hF
  unfold F_X0_isFrozen_p17 at hF
  exact r_zret (pc := 17) dX0_isFrozen_17 hF
set_option maxHeartbeats 4000000 in
theorem w_X0_isFrozen {X : Option Cx} {G : EG} {res : Mem × Int32} (M : Mem) (a0 : Nat) (hF : F_X0_isFrozen M a0 = some res) : T X (RI G res) P_X0_isFrozen M [(a0, 2)] [(0, .ref a0)] [] 0 := by
  unfold F_X0_isFrozen at hF
  refine r_aload_n (pc := 0) 0 dX0_isFrozen_0 rfl rfl ?_
  refine gf_X0_40 (pc := 1) (j := 0) rfl dX0_isFrozen_1 ?_
  refine r_lr (by decide) hF (fun b1 hF => ?_)
  refine gf_X0_51 (pc := 4) (j := 0) rfl dX0_isFrozen_4 ?_
  refine r_lconst (pc := 7) (w := 0) dX0_isFrozen_7 (by decide) ?_
  refine r_lcmp (pc := 8) dX0_isFrozen_8 ?_
  refine r_if_gt (pc := 9) (tgt := 16) dX0_isFrozen_9 rfl hF (fun hF => ?_) (fun hF => ?_)
  · refine r_iconst (pc := 16) (w := 0) dX0_isFrozen_16 (by decide) ?_
    exact T.sub ((w_X0_isFrozen_p17) M (0 : Int32) hF) [] [] rfl rfl
  · refine r_iconst (pc := 12) (w := 1) dX0_isFrozen_12 (by decide) ?_
    refine r_goto (pc := 13) (tgt := 17) dX0_isFrozen_13 rfl ?_
    exact T.sub ((w_X0_isFrozen_p17) M (1 : Int32) hF) [] [] rfl rfl
theorem k_X0_isFrozen (G : EG) (M : Mem) (a0 : Nat) (q : Mem × Int32) (h : F_X0_isFrozen M a0 = some q) : Kt yX0_isFrozen P_X0_isFrozen M [(a0, 2)] [.ref a0] (RI G q) := Kt.of (by decide +kernel) rfl (Nat.le_of_ble_eq_true rfl) rfl (fun X hz => w_X0_isFrozen M a0 h)
set_option maxHeartbeats 4000000 in
theorem w_X0_leadOut_p18 {X : Option Cx} {G : EG} {res : Mem × Int64} {k98 : Mem → Nat → Int64 → Nat → Option (Mem × Int64)} (hk98 : ∀ (M : Mem) (x0 : Nat) (x1 : Int64) (x3 : Nat), k98 M x0 x1 x3 = some res → T X (RJ G res) P_X0_leadOut M [(x0, 2), (x3, 6)] [(0, .ref x0), (1, .long x1), (3, .ref x3)] [] 98) : ∀ (n : Nat) (M : Mem) (x0 : Nat) (x1 : Int64) (x3 : Nat) (x4 : Int32), F_X0_leadOut_p18 k98 n M x0 x1 x3 x4 = some res → T X (RJ G res) P_X0_leadOut M [(x0, 2), (x3, 6)] [(0, .ref x0), (1, .long x1), (3, .ref x3), (4, .int x4)] [] 18 := by
  intro n
  induction n with
  | zero =>
    intro M x0 x1 x3 x4 hF
    cases hF
  | succ n ih =>
    intro M x0 x1 x3 x4 hF
    unfold F_X0_leadOut_p18 at hF
    refine r_iload (pc := 18) 3 dX0_leadOut_18 rfl ?_
    refine r_aload_n (pc := 20) 0 dX0_leadOut_20 rfl rfl ?_
    refine gf_X0_12 (pc := 21) (j := 0) rfl dX0_leadOut_21 ?_
    refine r_lr (by decide) hF (fun b1 hF => ?_)
    refine r_callV_I (pc := 24) (Py := P_Jx4a65c_size_8abf5) (n := 0) (As := []) (fun q e => k_Jx4a65c_size_8abf5 G _ b1 q e) (c := 0) (Tb := TJx4a65c) (N := 3) rfl (by decide) (j0 := 0) rfl tw_383 tw_344 tw_345 tw_64 tw_346 hd_Jx4a65c_size_8abf5 ⟨Nat.le_of_ble_eq_true rfl, Nat.le_of_ble_eq_true rfl⟩ rfl [0] rfl rfl (Nat.le_of_ble_eq_true rfl) dX0_leadOut_24 hF (fun M2 r3 hF => ?_)
    refine r_icmp_ge (pc := 27) (tgt := 98) dX0_leadOut_27 rfl hF (fun hF => ?_) (fun hF => ?_)
    · exact T.sub (hk98 M2 x0 x1 x3 hF) [1, 2] [0, 1, 2] rfl rfl
    · refine r_aload_n (pc := 30) 0 dX0_leadOut_30 rfl rfl ?_
      refine gf_X0_12 (pc := 31) (j := 1) rfl dX0_leadOut_31 ?_
      refine r_lr (by decide) hF (fun b4 hF => ?_)
      refine r_iload (pc := 34) 3 dX0_leadOut_34 rfl ?_
      refine r_callV_R (pc := 36) (Py := P_Jx4a65c_get_915e3) (n := 1) (As := [.int x4]) (fun q e => k_Jx4a65c_get_915e3 G _ b4 x4 q e) (c := 0) (Tb := TJx4a65c) (N := 3) rfl (by decide) (j0 := 0) rfl tw_384 tw_348 tw_349 tw_64 tw_350 hd_Jx4a65c_get_915e3 ⟨Nat.le_of_ble_eq_true rfl, Nat.le_of_ble_eq_true rfl⟩ rfl [0] rfl rfl (Nat.le_of_ble_eq_true rfl) dX0_leadOut_36 hF (fun M5 r6 hF => ?_)
      refine r_lr (by decide) hF (fun b7 hF => ?_)
      refine r_cast (pc := 39) (c := 5) (Tb := TX4) (N := 5) rfl (by decide) (j := 0) rfl tw_385 dX0_leadOut_39 ?_
      refine r_astore (pc := 42) (L1 := [(5, .ref b7), (0, .ref x0), (1, .long x1), (3, .ref x3), (4, .int x4)]) dX0_leadOut_42 (by decide) rfl ?_
      refine r_aload_n (pc := 44) 1 dX0_leadOut_44 rfl rfl ?_
      refine gf_X0_65 (pc := 45) (j := 3) rfl dX0_leadOut_45 ?_
      refine r_i2l (pc := 48) dX0_leadOut_48 ?_
      refine r_aload_n (pc := 49) 3 dX0_leadOut_49 rfl rfl ?_
      refine gf_X0_51 (pc := 50) (j := 4) rfl dX0_leadOut_50 ?_
      refine r_aload (pc := 53) 0 dX0_leadOut_53 rfl ?_
      refine gf_X0_51 (pc := 55) (j := 0) rfl dX0_leadOut_55 ?_
      refine r_lsub (pc := 58) dX0_leadOut_58 ?_
      refine r_lmul (pc := 59) dX0_leadOut_59 ?_
      refine r_ldc2 (pc := 60) (w := 100) tw_386 dX0_leadOut_60 ?_
      refine r_ldivc (pc := 63) dX0_leadOut_63 (by decide) ?_
      refine r_gJ (pc := 64) hF (fun v8 hF => ?_)
      refine r_lstore (pc := 64) (L1 := [(6, .long v8), (5, .ref b7), (0, .ref x0), (1, .long x1), (3, .ref x3), (4, .int x4)]) dX0_leadOut_64 (by decide) rfl ?_
      refine r_aload_n (pc := 66) 4 dX0_leadOut_66 rfl rfl ?_
      refine r_dup (pc := 67) dX0_leadOut_67 rfl ?_
      refine gf_X0_70 (pc := 68) (j := 4) rfl dX0_leadOut_68 ?_
      refine r_lload (pc := 71) 0 dX0_leadOut_71 rfl ?_
      refine r_lsub (pc := 73) dX0_leadOut_73 ?_
      refine pf_X0_70 (pc := 74) (j := 4) rfl dX0_leadOut_74 hF (fun M9 hF => ?_)
      refine r_aload (pc := 77) 1 dX0_leadOut_77 rfl ?_
      refine r_dup (pc := 79) dX0_leadOut_79 rfl ?_
      refine gf_X0_70 (pc := 80) (j := 0) rfl dX0_leadOut_80 ?_
      refine r_lload (pc := 83) 0 dX0_leadOut_83 rfl ?_
      refine r_ladd (pc := 85) dX0_leadOut_85 ?_
      refine pf_X0_70 (pc := 86) (j := 0) rfl dX0_leadOut_86 hF (fun M10 hF => ?_)
      refine r_aload (pc := 89) 1 dX0_leadOut_89 rfl ?_
      refine r_astore_n (pc := 91) (L1 := [(3, .ref b7), (6, .long v8), (5, .ref b7), (0, .ref x0), (1, .long x1), (4, .int x4)]) dX0_leadOut_91 rfl (by decide) rfl ?_
      obtain ⟨v11, e9, hF⟩ := bnd_e hF
      refine r_iinc (pc := 92) (w := v11) (k := 5) (L1 := [(4, .int v11), (3, .ref b7), (6, .long v8), (5, .ref b7), (0, .ref x0), (1, .long x1)]) dX0_leadOut_92 rfl (by rw [e9]; rfl) (by decide) rfl ?_
      clear e9
      refine r_goto (pc := 95) (tgt := 18) dX0_leadOut_95 rfl ?_
      exact T.sub (ih M10 x0 x1 b7 v11 hF) [3, 0] [4, 5, 1, 0] rfl rfl
set_option maxHeartbeats 4000000 in
theorem w_X0_leadOut_p98 {X : Option Cx} {G : EG} {res : Mem × Int64} : ∀ (M : Mem) (x0 : Nat) (x1 : Int64) (x3 : Nat), F_X0_leadOut_p98 M x0 x1 x3 = some res → T X (RJ G res) P_X0_leadOut M [(x0, 2), (x3, 6)] [(0, .ref x0), (1, .long x1), (3, .ref x3)] [] 98 := by
  intro M x0 x1 x3 hF
  unfold F_X0_leadOut_p98 at hF
  refine r_aload_n (pc := 98) 0 dX0_leadOut_98 rfl rfl ?_
  refine gf_X0_65 (pc := 99) (j := 0) rfl dX0_leadOut_99 ?_
  refine r_i2l (pc := 102) dX0_leadOut_102 ?_
  refine r_aload_n (pc := 103) 2 dX0_leadOut_103 rfl rfl ?_
  refine gf_X0_51 (pc := 104) (j := 1) rfl dX0_leadOut_104 ?_
  refine r_lload_n (pc := 107) 1 dX0_leadOut_107 rfl rfl ?_
  refine r_lsub (pc := 108) dX0_leadOut_108 ?_
  refine r_lmul (pc := 109) dX0_leadOut_109 ?_
  refine r_ldc2 (pc := 110) (w := 100) tw_386 dX0_leadOut_110 ?_
  refine r_ldivc (pc := 113) dX0_leadOut_113 (by decide) ?_
  refine r_gJ (pc := 114) hF (fun v1 hF => ?_)
  refine r_lstore (pc := 114) (L1 := [(4, .long v1), (0, .ref x0), (1, .long x1), (3, .ref x3)]) dX0_leadOut_114 (by decide) rfl ?_
  refine r_aload_n (pc := 116) 3 dX0_leadOut_116 rfl rfl ?_
  refine r_dup (pc := 117) dX0_leadOut_117 rfl ?_
  refine gf_X0_70 (pc := 118) (j := 1) rfl dX0_leadOut_118 ?_
  refine r_lload (pc := 121) 0 dX0_leadOut_121 rfl ?_
  refine r_lsub (pc := 123) dX0_leadOut_123 ?_
  refine pf_X0_70 (pc := 124) (j := 1) rfl dX0_leadOut_124 hF (fun M2 hF => ?_)
  refine r_lload (pc := 127) 0 dX0_leadOut_127 rfl ?_
  exact r_lret (pc := 129) dX0_leadOut_129 hF
set_option maxHeartbeats 4000000 in
theorem w_X0_leadOut {X : Option Cx} {G : EG} {res : Mem × Int64} (M : Mem) (a0 : Nat) (hF : F_X0_leadOut M a0 = some res) : T X (RJ G res) P_X0_leadOut M [(a0, 2)] [(0, .ref a0)] [] 0 := by
  unfold F_X0_leadOut at hF
  refine r_ldc2 (pc := 0) (w := 1000) tw_382 dX0_leadOut_0 ?_
  refine r_aload_n (pc := 3) 0 dX0_leadOut_3 rfl rfl ?_
  refine gf_X0_32 (pc := 4) (j := 0) rfl dX0_leadOut_4 ?_
  refine r_i2l (pc := 7) dX0_leadOut_7 ?_
  refine r_lmul (pc := 8) dX0_leadOut_8 ?_
  refine r_gJ (pc := 9) hF (fun v1 hF => ?_)
  refine r_lstore_n (pc := 9) (L1 := [(1, .long v1), (0, .ref a0)]) dX0_leadOut_9 rfl (by decide) rfl ?_
  refine r_aload_n (pc := 10) 1 dX0_leadOut_10 rfl rfl ?_
  refine gf_X0_40 (pc := 11) (j := 0) rfl dX0_leadOut_11 ?_
  refine r_lr (by decide) hF (fun b2 hF => ?_)
  refine r_astore_n (pc := 14) (L1 := [(3, .ref b2), (1, .long v1), (0, .ref a0)]) dX0_leadOut_14 rfl (by decide) rfl ?_
  refine r_iconst (pc := 15) (w := 1) dX0_leadOut_15 (by decide) ?_
  refine r_istore (pc := 16) (L1 := [(4, .int ((1 : Int32))), (3, .ref b2), (1, .long v1), (0, .ref a0)]) dX0_leadOut_16 (by decide) rfl ?_
  exact T.sub ((w_X0_leadOut_p18 (w_X0_leadOut_p98) FU) M a0 v1 b2 (1 : Int32) hF) [1, 0] [3, 2, 1, 0] rfl rfl
theorem k_X0_leadOut (G : EG) (M : Mem) (a0 : Nat) (q : Mem × Int64) (h : F_X0_leadOut M a0 = some q) : Kt yX0_leadOut P_X0_leadOut M [(a0, 2)] [.ref a0] (RJ G q) := Kt.of (by decide +kernel) rfl (Nat.le_of_ble_eq_true rfl) rfl (fun X hz => w_X0_leadOut M a0 h)
set_option maxHeartbeats 4000000 in
theorem w_X4_settle {X : Option Cx} {G : EG} {res : Mem × Unit} (M : Mem) (a0 : Nat) (hF : F_X4_settle M a0 = some res) : T X (RV G res) P_X4_settle M [(a0, 6)] [(0, .ref a0)] [] 0 := by
  unfold F_X4_settle at hF
  refine r_aload_n (pc := 0) 0 dX4_settle_0 rfl rfl ?_
  refine r_dup (pc := 1) dX4_settle_1 rfl ?_
  refine gf_X4_18 (pc := 2) (j := 0) rfl dX4_settle_2 ?_
  refine r_aload_n (pc := 5) 0 dX4_settle_5 rfl rfl ?_
  refine gf_X4_30 (pc := 6) (j := 0) rfl dX4_settle_6 ?_
  refine r_ladd (pc := 9) dX4_settle_9 ?_
  refine pf_X4_18 (pc := 10) (j := 0) rfl dX4_settle_10 hF (fun M1 hF => ?_)
  refine r_aload_n (pc := 13) 0 dX4_settle_13 rfl rfl ?_
  refine r_lconst (pc := 14) (w := 0) dX4_settle_14 (by decide) ?_
  refine pf_X4_30 (pc := 15) (j := 0) rfl dX4_settle_15 hF (fun M2 hF => ?_)
  refine r_aload_n (pc := 18) 0 dX4_settle_18 rfl rfl ?_
  refine r_aload_n (pc := 19) 0 dX4_settle_19 rfl rfl ?_
  refine gf_X4_18 (pc := 20) (j := 0) rfl dX4_settle_20 ?_
  refine r_aload_n (pc := 23) 0 dX4_settle_23 rfl rfl ?_
  refine gf_X4_7 (pc := 24) (j := 0) rfl dX4_settle_24 ?_
  refine r_callSN_J (pc := 27) (Py := P_X11_cut) (n := 2) (As := [.long (gJ M2 502 a0), .long (gJ M2 500 a0)]) (fun q e => k_X11_cut G _ (gJ M2 502 a0) (gJ M2 500 a0) q e) tw_465 tw_400 tw_60 tw_401 hd_X11_cut ⟨Nat.le_of_ble_eq_true rfl, Nat.le_of_ble_eq_true rfl⟩ rfl [] rfl rfl (Nat.le_of_ble_eq_true rfl) dX4_settle_27 hF (fun M3 r4 hF => ?_)
  refine pf_X4_27 (pc := 30) (j := 0) rfl dX4_settle_30 hF (fun M5 hF => ?_)
  exact r_vret (pc := 33) dX4_settle_33 hF
theorem k_X4_settle (G : EG) (M : Mem) (a0 : Nat) (q : Mem × Unit) (h : F_X4_settle M a0 = some q) : Kt yX4_settle P_X4_settle M [(a0, 6)] [.ref a0] (RV G q) := Kt.of (by decide +kernel) rfl (Nat.le_of_ble_eq_true rfl) rfl (fun X hz => w_X4_settle M a0 h)
set_option maxHeartbeats 4000000 in
theorem w_X0_settle_p2 {X : Option Cx} {G : EG} {res : Mem × Unit} {k33 : Mem → Option (Mem × Unit)} (hk33 : ∀ (M : Mem), k33 M = some res → T X (RV G res) P_X0_settle M [] [] [] 33) : ∀ (n : Nat) (M : Mem) (x0 : Nat) (x1 : Int32), F_X0_settle_p2 k33 n M x0 x1 = some res → T X (RV G res) P_X0_settle M [(x0, 2)] [(0, .ref x0), (1, .int x1)] [] 2 := by
  intro n
  induction n with
  | zero =>
    intro M x0 x1 hF
    cases hF
  | succ n ih =>
    intro M x0 x1 hF
    unfold F_X0_settle_p2 at hF
    refine r_iload_n (pc := 2) 1 dX0_settle_2 rfl rfl ?_
    refine r_aload_n (pc := 3) 0 dX0_settle_3 rfl rfl ?_
    refine gf_X0_12 (pc := 4) (j := 0) rfl dX0_settle_4 ?_
    refine r_lr (by decide) hF (fun b1 hF => ?_)
    refine r_callV_I (pc := 7) (Py := P_Jx4a65c_size_8abf5) (n := 0) (As := []) (fun q e => k_Jx4a65c_size_8abf5 G _ b1 q e) (c := 0) (Tb := TJx4a65c) (N := 3) rfl (by decide) (j0 := 0) rfl tw_383 tw_344 tw_345 tw_64 tw_346 hd_Jx4a65c_size_8abf5 ⟨Nat.le_of_ble_eq_true rfl, Nat.le_of_ble_eq_true rfl⟩ rfl [0] rfl rfl (Nat.le_of_ble_eq_true rfl) dX0_settle_7 hF (fun M2 r3 hF => ?_)
    refine r_icmp_ge (pc := 10) (tgt := 33) dX0_settle_10 rfl hF (fun hF => ?_) (fun hF => ?_)
    · exact T.sub (hk33 M2 hF) [] [] rfl rfl
    · refine r_aload_n (pc := 13) 0 dX0_settle_13 rfl rfl ?_
      refine gf_X0_12 (pc := 14) (j := 1) rfl dX0_settle_14 ?_
      refine r_lr (by decide) hF (fun b4 hF => ?_)
      refine r_iload_n (pc := 17) 1 dX0_settle_17 rfl rfl ?_
      refine r_callV_R (pc := 18) (Py := P_Jx4a65c_get_915e3) (n := 1) (As := [.int x1]) (fun q e => k_Jx4a65c_get_915e3 G _ b4 x1 q e) (c := 0) (Tb := TJx4a65c) (N := 3) rfl (by decide) (j0 := 0) rfl tw_384 tw_348 tw_349 tw_64 tw_350 hd_Jx4a65c_get_915e3 ⟨Nat.le_of_ble_eq_true rfl, Nat.le_of_ble_eq_true rfl⟩ rfl [0] rfl rfl (Nat.le_of_ble_eq_true rfl) dX0_settle_18 hF (fun M5 r6 hF => ?_)
      refine r_lr (by decide) hF (fun b7 hF => ?_)
      refine r_cast (pc := 21) (c := 5) (Tb := TX4) (N := 5) rfl (by decide) (j := 0) rfl tw_385 dX0_settle_21 ?_
      refine r_callV_V (pc := 24) (Py := P_X4_settle) (n := 0) (As := []) (fun q e => k_X4_settle G _ b7 q e) (c := 5) (Tb := TX4) (N := 5) rfl (by decide) (j0 := 0) rfl tw_461 tw_462 tw_463 tw_75 tw_464 hd_X4_settle ⟨Nat.le_of_ble_eq_true rfl, Nat.le_of_ble_eq_true rfl⟩ rfl [0] rfl rfl (Nat.le_of_ble_eq_true rfl) dX0_settle_24 hF (fun M8 r9 hF => ?_)
      obtain ⟨v10, e9, hF⟩ := bnd_e hF
      refine r_iinc (pc := 27) (w := v10) (k := 1) (L1 := [(1, .int v10), (0, .ref x0)]) dX0_settle_27 rfl (by rw [e9]; rfl) (by decide) rfl ?_
      clear e9
      refine r_goto (pc := 30) (tgt := 2) dX0_settle_30 rfl ?_
      exact T.sub (ih M8 x0 v10 hF) [3] [1, 0] rfl rfl
set_option maxHeartbeats 4000000 in
theorem w_X0_settle_p33 {X : Option Cx} {G : EG} {res : Mem × Unit} : ∀ (M : Mem), F_X0_settle_p33 M = some res → T X (RV G res) P_X0_settle M [] [] [] 33 := by
  intro M hF
  unfold F_X0_settle_p33 at hF
  exact r_vret (pc := 33) dX0_settle_33 hF
set_option maxHeartbeats 4000000 in
theorem w_X0_settle {X : Option Cx} {G : EG} {res : Mem × Unit} (M : Mem) (a0 : Nat) (hF : F_X0_settle M a0 = some res) : T X (RV G res) P_X0_settle M [(a0, 2)] [(0, .ref a0)] [] 0 := by
  unfold F_X0_settle at hF
  refine r_iconst (pc := 0) (w := 0) dX0_settle_0 (by decide) ?_
  refine r_istore_n (pc := 1) (L1 := [(1, .int ((0 : Int32))), (0, .ref a0)]) dX0_settle_1 rfl (by decide) rfl ?_
  exact T.sub ((w_X0_settle_p2 (w_X0_settle_p33) FU) M a0 (0 : Int32) hF) [0] [1, 0] rfl rfl
theorem k_X0_settle (G : EG) (M : Mem) (a0 : Nat) (q : Mem × Unit) (h : F_X0_settle M a0 = some q) : Kt yX0_settle P_X0_settle M [(a0, 2)] [.ref a0] (RV G q) := Kt.of (by decide +kernel) rfl (Nat.le_of_ble_eq_true rfl) rfl (fun X hz => w_X0_settle M a0 h)
set_option maxHeartbeats 4000000 in
theorem w_X0_shareWith {X : Option Cx} {G : EG} {res : Mem × Unit} (M : Mem) (a0 : Nat) (a1 : Nat) (a2 : Int32) (hF : F_X0_shareWith M a0 a1 a2 = some res) : T X (RV G res) P_X0_shareWith M [(a0, 2), (a1, 2)] [(0, .ref a0), (1, .ref a1), (2, .int a2)] [] 0 := by
  unfold F_X0_shareWith at hF
  refine r_aload_n (pc := 0) 0 dX0_shareWith_0 rfl rfl ?_
  refine gf_X0_26 (pc := 1) (j := 0) rfl dX0_shareWith_1 ?_
  refine r_aload_n (pc := 4) 1 dX0_shareWith_4 rfl rfl ?_
  refine gf_X0_26 (pc := 5) (j := 1) rfl dX0_shareWith_5 ?_
  refine r_isub (pc := 8) dX0_shareWith_8 ?_
  refine r_mabs (pc := 9) tw_395 tw_396 tw_71 tw_397 ⟨Nat.le_of_ble_eq_true rfl, Nat.le_of_ble_eq_true rfl⟩ (Nat.le_of_ble_eq_true rfl) dX0_shareWith_9 ?_
  refine r_aload_n (pc := 12) 0 dX0_shareWith_12 rfl rfl ?_
  refine gf_X0_29 (pc := 13) (j := 0) rfl dX0_shareWith_13 ?_
  refine r_aload_n (pc := 16) 1 dX0_shareWith_16 rfl rfl ?_
  refine gf_X0_29 (pc := 17) (j := 1) rfl dX0_shareWith_17 ?_
  refine r_isub (pc := 20) dX0_shareWith_20 ?_
  refine r_mabs (pc := 21) tw_395 tw_396 tw_71 tw_397 ⟨Nat.le_of_ble_eq_true rfl, Nat.le_of_ble_eq_true rfl⟩ (Nat.le_of_ble_eq_true rfl) dX0_shareWith_21 ?_
  refine r_mmax (pc := 24) tw_398 tw_341 tw_71 tw_342 ⟨Nat.le_of_ble_eq_true rfl, Nat.le_of_ble_eq_true rfl⟩ (Nat.le_of_ble_eq_true rfl) dX0_shareWith_24 ?_
  refine r_gI (pc := 27) hF (fun v1 hF => ?_)
  refine r_istore_n (pc := 27) (L1 := [(3, .int v1), (0, .ref a0), (1, .ref a1), (2, .int a2)]) dX0_shareWith_27 rfl (by decide) rfl ?_
  refine r_iload_n (pc := 28) 0 dX0_shareWith_28 rfl rfl ?_
  refine r_bipush (pc := 29) (w := 9) dX0_shareWith_29 (by decide) ?_
  refine r_icmp_le (pc := 31) (tgt := 35) dX0_shareWith_31 rfl hF (fun hF => ?_) (fun hF => ?_)
  · refine r_iload_n (pc := 35) 3 dX0_shareWith_35 rfl rfl ?_
    refine r_i2l (pc := 36) dX0_shareWith_36 ?_
    refine r_aload_n (pc := 37) 1 dX0_shareWith_37 rfl rfl ?_
    refine gf_X0_48 (pc := 38) (j := 0) rfl dX0_shareWith_38 ?_
    refine r_lr (by decide) hF (fun b2 hF => ?_)
    refine gf_X0_51 (pc := 41) (j := 0) rfl dX0_shareWith_41 ?_
    refine r_aload_n (pc := 44) 2 dX0_shareWith_44 rfl rfl ?_
    refine gf_X0_48 (pc := 45) (j := 2) rfl dX0_shareWith_45 ?_
    refine r_lr (by decide) hF (fun b3 hF => ?_)
    refine gf_X0_51 (pc := 48) (j := 0) rfl dX0_shareWith_48 ?_
    refine r_lsub (pc := 51) dX0_shareWith_51 ?_
    refine r_lmul (pc := 52) dX0_shareWith_52 ?_
    refine r_ldc2 (pc := 53) (w := 100) tw_386 dX0_shareWith_53 ?_
    refine r_iload_n (pc := 56) 0 dX0_shareWith_56 rfl rfl ?_
    refine r_iconst (pc := 57) (w := 1) dX0_shareWith_57 (by decide) ?_
    refine r_iadd (pc := 58) dX0_shareWith_58 ?_
    refine r_i2l (pc := 59) dX0_shareWith_59 ?_
    refine r_lmul (pc := 60) dX0_shareWith_60 ?_
    refine r_callSN_J (pc := 61) (Py := P_X11_cut) (n := 2) (As := [.long ((a2.toInt64) * ((gJ M 503 b2) - (gJ M 503 b3))), .long ((100 : Int64) * ((v1 + (1 : Int32)).toInt64))]) (fun q e => k_X11_cut G _ ((a2.toInt64) * ((gJ M 503 b2) - (gJ M 503 b3))) ((100 : Int64) * ((v1 + (1 : Int32)).toInt64)) q e) tw_399 tw_400 tw_60 tw_401 hd_X11_cut ⟨Nat.le_of_ble_eq_true rfl, Nat.le_of_ble_eq_true rfl⟩ rfl [] rfl rfl (Nat.le_of_ble_eq_true rfl) dX0_shareWith_61 hF (fun M4 r5 hF => ?_)
    refine r_lstore (pc := 64) (L1 := [(4, .long r5), (3, .int v1), (0, .ref a0), (1, .ref a1), (2, .int a2)]) dX0_shareWith_64 (by decide) rfl ?_
    refine r_aload_n (pc := 66) 2 dX0_shareWith_66 rfl rfl ?_
    refine gf_X0_48 (pc := 67) (j := 2) rfl dX0_shareWith_67 ?_
    refine r_lr (by decide) hF (fun b6 hF => ?_)
    refine r_dup (pc := 70) dX0_shareWith_70 rfl ?_
    refine gf_X0_70 (pc := 71) (j := 0) rfl dX0_shareWith_71 ?_
    refine r_lload (pc := 74) 0 dX0_shareWith_74 rfl ?_
    refine r_lsub (pc := 76) dX0_shareWith_76 ?_
    refine pf_X0_70 (pc := 77) (j := 0) rfl dX0_shareWith_77 hF (fun M7 hF => ?_)
    refine r_aload_n (pc := 80) 3 dX0_shareWith_80 rfl rfl ?_
    refine gf_X0_48 (pc := 81) (j := 4) rfl dX0_shareWith_81 ?_
    refine r_lr (by decide) hF (fun b8 hF => ?_)
    refine r_dup (pc := 84) dX0_shareWith_84 rfl ?_
    refine gf_X0_70 (pc := 85) (j := 0) rfl dX0_shareWith_85 ?_
    refine r_lload (pc := 88) 0 dX0_shareWith_88 rfl ?_
    refine r_ladd (pc := 90) dX0_shareWith_90 ?_
    refine pf_X0_70 (pc := 91) (j := 0) rfl dX0_shareWith_91 hF (fun M9 hF => ?_)
    exact r_vret (pc := 94) dX0_shareWith_94 hF
  · exact r_vret (pc := 34) dX0_shareWith_34 hF
theorem k_X0_shareWith (G : EG) (M : Mem) (a0 : Nat) (a1 : Nat) (a2 : Int32) (q : Mem × Unit) (h : F_X0_shareWith M a0 a1 a2 = some q) : Kt yX0_shareWith P_X0_shareWith M [(a0, 2), (a1, 2)] [.ref a0, .ref a1, .int a2] (RV G q) := Kt.of (by decide +kernel) rfl (Nat.le_of_ble_eq_true rfl) rfl (fun X hz => w_X0_shareWith M a0 a1 a2 h)
set_option maxHeartbeats 4000000 in
theorem w_X0_wash_p4 {X : Option Cx} {G : EG} {res : Mem × Int64} {k74 : Mem → Int64 → Option (Mem × Int64)} (hk74 : ∀ (M : Mem) (x1 : Int64), k74 M x1 = some res → T X (RJ G res) P_X0_wash M [] [(1, .long x1)] [] 74) : ∀ (n : Nat) (M : Mem) (x0 : Nat) (x1 : Int64) (x3 : Int32), F_X0_wash_p4 k74 n M x0 x1 x3 = some res → T X (RJ G res) P_X0_wash M [(x0, 2)] [(0, .ref x0), (1, .long x1), (3, .int x3)] [] 4 := by
  intro n
  induction n with
  | zero =>
    intro M x0 x1 x3 hF
    cases hF
  | succ n ih =>
    intro M x0 x1 x3 hF
    unfold F_X0_wash_p4 at hF
    refine r_iload_n (pc := 4) 2 dX0_wash_4 rfl rfl ?_
    refine r_aload_n (pc := 5) 0 dX0_wash_5 rfl rfl ?_
    refine gf_X0_12 (pc := 6) (j := 0) rfl dX0_wash_6 ?_
    refine r_lr (by decide) hF (fun b1 hF => ?_)
    refine r_callV_I (pc := 9) (Py := P_Jx4a65c_size_8abf5) (n := 0) (As := []) (fun q e => k_Jx4a65c_size_8abf5 G _ b1 q e) (c := 0) (Tb := TJx4a65c) (N := 3) rfl (by decide) (j0 := 0) rfl tw_383 tw_344 tw_345 tw_64 tw_346 hd_Jx4a65c_size_8abf5 ⟨Nat.le_of_ble_eq_true rfl, Nat.le_of_ble_eq_true rfl⟩ rfl [0] rfl rfl (Nat.le_of_ble_eq_true rfl) dX0_wash_9 hF (fun M2 r3 hF => ?_)
    refine r_icmp_ge (pc := 12) (tgt := 74) dX0_wash_12 rfl hF (fun hF => ?_) (fun hF => ?_)
    · exact T.sub (hk74 M2 x1 hF) [] [1] rfl rfl
    · refine r_aload_n (pc := 15) 0 dX0_wash_15 rfl rfl ?_
      refine gf_X0_12 (pc := 16) (j := 1) rfl dX0_wash_16 ?_
      refine r_lr (by decide) hF (fun b4 hF => ?_)
      refine r_iload_n (pc := 19) 2 dX0_wash_19 rfl rfl ?_
      refine r_callV_R (pc := 20) (Py := P_Jx4a65c_get_915e3) (n := 1) (As := [.int x3]) (fun q e => k_Jx4a65c_get_915e3 G _ b4 x3 q e) (c := 0) (Tb := TJx4a65c) (N := 3) rfl (by decide) (j0 := 0) rfl tw_384 tw_348 tw_349 tw_64 tw_350 hd_Jx4a65c_get_915e3 ⟨Nat.le_of_ble_eq_true rfl, Nat.le_of_ble_eq_true rfl⟩ rfl [0] rfl rfl (Nat.le_of_ble_eq_true rfl) dX0_wash_20 hF (fun M5 r6 hF => ?_)
      refine r_lr (by decide) hF (fun b7 hF => ?_)
      refine r_cast (pc := 23) (c := 5) (Tb := TX4) (N := 5) rfl (by decide) (j := 0) rfl tw_385 dX0_wash_23 ?_
      refine r_astore (pc := 26) (L1 := [(4, .ref b7), (0, .ref x0), (1, .long x1), (3, .int x3)]) dX0_wash_26 (by decide) rfl ?_
      refine r_aload_n (pc := 28) 1 dX0_wash_28 rfl rfl ?_
      refine gf_X0_87 (pc := 29) (j := 3) rfl dX0_wash_29 ?_
      refine r_i2l (pc := 32) dX0_wash_32 ?_
      refine r_aload (pc := 33) 0 dX0_wash_33 rfl ?_
      refine gf_X0_90 (pc := 35) (j := 0) rfl dX0_wash_35 ?_
      refine r_aload (pc := 38) 0 dX0_wash_38 rfl ?_
      refine gf_X0_93 (pc := 40) (j := 0) rfl dX0_wash_40 ?_
      refine r_lsub (pc := 43) dX0_wash_43 ?_
      refine r_lmul (pc := 44) dX0_wash_44 ?_
      refine r_ldc2 (pc := 45) (w := 1000) tw_382 dX0_wash_45 ?_
      refine r_ldivc (pc := 48) dX0_wash_48 (by decide) ?_
      refine r_gJ (pc := 49) hF (fun v8 hF => ?_)
      refine r_lstore (pc := 49) (L1 := [(5, .long v8), (4, .ref b7), (0, .ref x0), (1, .long x1), (3, .int x3)]) dX0_wash_49 (by decide) rfl ?_
      refine r_aload (pc := 51) 1 dX0_wash_51 rfl ?_
      refine r_dup (pc := 53) dX0_wash_53 rfl ?_
      refine gf_X0_70 (pc := 54) (j := 0) rfl dX0_wash_54 ?_
      refine r_lload (pc := 57) 0 dX0_wash_57 rfl ?_
      refine r_lsub (pc := 59) dX0_wash_59 ?_
      refine pf_X0_70 (pc := 60) (j := 0) rfl dX0_wash_60 hF (fun M9 hF => ?_)
      refine r_lload_n (pc := 63) 3 dX0_wash_63 rfl rfl ?_
      refine r_lload (pc := 64) 0 dX0_wash_64 rfl ?_
      refine r_ladd (pc := 66) dX0_wash_66 ?_
      refine r_gJ (pc := 67) hF (fun v10 hF => ?_)
      refine r_lstore_n (pc := 67) (L1 := [(1, .long v10), (5, .long v8), (4, .ref b7), (0, .ref x0), (3, .int x3)]) dX0_wash_67 rfl (by decide) rfl ?_
      obtain ⟨v11, e9, hF⟩ := bnd_e hF
      refine r_iinc (pc := 68) (w := v11) (k := 4) (L1 := [(3, .int v11), (1, .long v10), (5, .long v8), (4, .ref b7), (0, .ref x0)]) dX0_wash_68 rfl (by rw [e9]; rfl) (by decide) rfl ?_
      clear e9
      refine r_goto (pc := 71) (tgt := 4) dX0_wash_71 rfl ?_
      exact T.sub (ih M9 x0 v10 v11 hF) [3] [4, 1, 0] rfl rfl
set_option maxHeartbeats 4000000 in
theorem w_X0_wash_p74 {X : Option Cx} {G : EG} {res : Mem × Int64} : ∀ (M : Mem) (x1 : Int64), F_X0_wash_p74 M x1 = some res → T X (RJ G res) P_X0_wash M [] [(1, .long x1)] [] 74 := by
  intro M x1 hF
  unfold F_X0_wash_p74 at hF
  refine r_lload_n (pc := 74) 0 dX0_wash_74 rfl rfl ?_
  exact r_lret (pc := 75) dX0_wash_75 hF
set_option maxHeartbeats 4000000 in
theorem w_X0_wash {X : Option Cx} {G : EG} {res : Mem × Int64} (M : Mem) (a0 : Nat) (hF : F_X0_wash M a0 = some res) : T X (RJ G res) P_X0_wash M [(a0, 2)] [(0, .ref a0)] [] 0 := by
  unfold F_X0_wash at hF
  refine r_lconst (pc := 0) (w := 0) dX0_wash_0 (by decide) ?_
  refine r_lstore_n (pc := 1) (L1 := [(1, .long ((0 : Int64))), (0, .ref a0)]) dX0_wash_1 rfl (by decide) rfl ?_
  refine r_iconst (pc := 2) (w := 0) dX0_wash_2 (by decide) ?_
  refine r_istore_n (pc := 3) (L1 := [(3, .int ((0 : Int32))), (1, .long ((0 : Int64))), (0, .ref a0)]) dX0_wash_3 rfl (by decide) rfl ?_
  exact T.sub ((w_X0_wash_p4 (w_X0_wash_p74) FU) M a0 (0 : Int64) (0 : Int32) hF) [0] [2, 1, 0] rfl rfl
theorem k_X0_wash (G : EG) (M : Mem) (a0 : Nat) (q : Mem × Int64) (h : F_X0_wash M a0 = some q) : Kt yX0_wash P_X0_wash M [(a0, 2)] [.ref a0] (RJ G q) := Kt.of (by decide +kernel) rfl (Nat.le_of_ble_eq_true rfl) rfl (fun X hz => w_X0_wash M a0 h)
set_option maxHeartbeats 4000000 in
theorem w_X10_init_p41 {X : Option Cx} {G : EG} {res : Mem × Unit} (hzi : ∀ x, X = some x → Zi x) {k64 : Mem → Option (Mem × Unit)} (hk64 : ∀ (M : Mem), k64 M = some res → T X (RV G res) P_X10_init M [] [] [] 64) : ∀ (n : Nat) (M : Mem) (x0 : Nat) (x1 : Int32), F_X10_init_p41 k64 n M x0 x1 = some res → T X (RV G res) P_X10_init M [(x0, 12)] [(0, .ref x0), (1, .int x1)] [] 41 := by
  intro n
  induction n with
  | zero =>
    intro M x0 x1 hF
    cases hF
  | succ n ih =>
    intro M x0 x1 hF
    unfold F_X10_init_p41 at hF
    refine r_iload_n (pc := 41) 1 dX10_init_41 rfl rfl ?_
    refine r_aload_n (pc := 42) 0 dX10_init_42 rfl rfl ?_
    refine gf_X10_22 (pc := 43) (j := 0) rfl dX10_init_43 ?_
    refine r_lr (by decide) hF (fun b1 hF => ?_)
    refine r_alen (pc := 46) (j := 0) rfl (by decide) dX10_init_46 ?_
    refine r_icmp_ge (pc := 47) (tgt := 64) dX10_init_47 rfl hF (fun hF => ?_) (fun hF => ?_)
    · exact T.sub (hk64 M hF) [] [] rfl rfl
    · refine r_aload_n (pc := 50) 0 dX10_init_50 rfl rfl ?_
      refine gf_X10_22 (pc := 51) (j := 1) rfl dX10_init_51 ?_
      refine r_lr (by decide) hF (fun b2 hF => ?_)
      refine r_iload_n (pc := 54) 1 dX10_init_54 rfl rfl ?_
      refine r_bipush (pc := 55) (w := 10) dX10_init_55 (by decide) ?_
      refine r_iast (pc := 57) (j := 0) rfl dX10_init_57 hF (fun M3 hF => ?_)
      obtain ⟨v4, e9, hF⟩ := bnd_e hF
      refine r_iinc (pc := 58) (w := v4) (k := 1) (L1 := [(1, .int v4), (0, .ref x0)]) dX10_init_58 rfl (by rw [e9]; rfl) (by decide) rfl ?_
      clear e9
      refine r_goto (pc := 61) (tgt := 41) dX10_init_61 rfl ?_
      exact T.sub (ih M3 x0 v4 hF) [2] [1, 0] rfl rfl
set_option maxHeartbeats 4000000 in
theorem w_X10_init_p64 {X : Option Cx} {G : EG} {res : Mem × Unit} (hzi : ∀ x, X = some x → Zi x) : ∀ (M : Mem), F_X10_init_p64 M = some res → T X (RV G res) P_X10_init M [] [] [] 64 := by
  intro M hF
  unfold F_X10_init_p64 at hF
  exact r_vret (pc := 64) dX10_init_64 hF
set_option maxHeartbeats 4000000 in
theorem w_X10_init {X : Option Cx} {G : EG} {res : Mem × Unit} (hzi : ∀ x, X = some x → Zi x) (M : Mem) (a0 : Nat) (hF : F_X10_init M a0 = some res) : T X (RV G res) P_X10_init M [(a0, 12)] [(0, .ref a0)] [] 0 := by
  unfold F_X10_init at hF
  refine r_aload_n (pc := 0) 0 dX10_init_0 rfl rfl ?_
  refine r_objInit (pc := 1) tw_100 tw_93 tw_94 ⟨Nat.le_of_ble_eq_true rfl, Nat.le_of_ble_eq_true rfl⟩ (Nat.le_of_ble_eq_true rfl) dX10_init_1 ?_
  refine r_aload_n (pc := 4) 0 dX10_init_4 rfl rfl ?_
  refine r_new (pc := 5) (c := 0) (N := 3) tin_Jx4a65c tyJx4a65c tyJx4a65c_ok rfl rfl (by decide) tw_101 tw_102 tw_64 (by decide +kernel) dX10_init_5 hF (fun b1 M2 hF => ?_)
  refine r_dup (pc := 8) dX10_init_8 rfl ?_
  refine r_callI_V (pc := 9) (Py := P_Jx4a65c_init_da8c8) (n := 0) (As := []) (fun q e => k_Jx4a65c_init_da8c8 G _ b1 q e) tw_103 tw_104 tw_64 tw_105 rfl rfl hd_Jx4a65c_init_da8c8 ⟨Nat.le_of_ble_eq_true rfl, Nat.le_of_ble_eq_true rfl⟩ rfl [0] rfl rfl (Nat.le_of_ble_eq_true rfl) dX10_init_9 hF (fun M3 r4 hF => ?_)
  refine pf_X10_12 (pc := 12) hzi (w := (some b1)) (j := 1) rfl dX10_init_12 hF (fun M5 hF => ?_)
  refine r_aload_n (pc := 15) 0 dX10_init_15 rfl rfl ?_
  refine r_bipush (pc := 16) (w := 12) dX10_init_16 (by decide) ?_
  refine r_newI (pc := 18) tw_149 dX10_init_18 hF (fun b6 M7 hF => ?_)
  refine pf_X10_18 (pc := 20) hzi (w := (some b6)) (j := 2) rfl dX10_init_20 hF (fun M8 hF => ?_)
  refine r_aload_n (pc := 23) 0 dX10_init_23 rfl rfl ?_
  refine r_bipush (pc := 24) (w := 24) dX10_init_24 (by decide) ?_
  refine r_newI (pc := 26) tw_149 dX10_init_26 hF (fun b9 M10 hF => ?_)
  refine pf_X10_22 (pc := 28) hzi (w := (some b9)) (j := 3) rfl dX10_init_28 hF (fun M11 hF => ?_)
  refine r_aload_n (pc := 31) 0 dX10_init_31 rfl rfl ?_
  refine r_bipush (pc := 32) (w := 24) dX10_init_32 (by decide) ?_
  refine r_newI (pc := 34) tw_149 dX10_init_34 hF (fun b12 M13 hF => ?_)
  refine pf_X10_25 (pc := 36) hzi (w := (some b12)) (j := 4) rfl dX10_init_36 hF (fun M14 hF => ?_)
  refine r_iconst (pc := 39) (w := 0) dX10_init_39 (by decide) ?_
  refine r_istore_n (pc := 40) (L1 := [(1, .int ((0 : Int32))), (0, .ref a0)]) dX10_init_40 rfl (by decide) rfl ?_
  exact T.sub ((w_X10_init_p41 hzi (w_X10_init_p64 hzi) FU) M14 a0 (0 : Int32) hF) [4] [1, 0] rfl rfl
theorem k_X10_init (G : EG) (M : Mem) (a0 : Nat) (q : Mem × Unit) (h : F_X10_init M a0 = some q) : Kt yX10_init P_X10_init M [(a0, 12)] [.ref a0] (RV G q) := Kt.of (by decide +kernel) rfl (Nat.le_of_ble_eq_true rfl) rfl (fun X hz => w_X10_init (fun x hx => hz x hx rfl) M a0 h)
set_option maxHeartbeats 4000000 in
theorem w_X2_isJoinedOn_p20 {X : Option Cx} {G : EG} {res : Mem × Int32} : ∀ (M : Mem) (y0 : Int32), F_X2_isJoinedOn_p20 M y0 = some res → T X (RI G res) P_X2_isJoinedOn M [] [] [.int y0] 20 := by
  intro M y0 hF
  unfold F_X2_isJoinedOn_p20 at hF
  exact r_zret (pc := 20) dX2_isJoinedOn_20 hF
set_option maxHeartbeats 4000000 in
theorem w_X2_isJoinedOn_p19 {X : Option Cx} {G : EG} {res : Mem × Int32} : ∀ (M : Mem), F_X2_isJoinedOn_p19 M = some res → T X (RI G res) P_X2_isJoinedOn M [] [] [] 19 := by
  intro M hF
  unfold F_X2_isJoinedOn_p19 at hF
  refine r_iconst (pc := 19) (w := 0) dX2_isJoinedOn_19 (by decide) ?_
  exact T.sub ((w_X2_isJoinedOn_p20) M (0 : Int32) hF) [] [] rfl rfl
set_option maxHeartbeats 4000000 in
theorem w_X2_isJoinedOn {X : Option Cx} {G : EG} {res : Mem × Int32} (M : Mem) (a0 : Nat) (a1 : Int32) (hF : F_X2_isJoinedOn M a0 a1 = some res) : T X (RI G res) P_X2_isJoinedOn M [(a0, 4)] [(0, .ref a0), (1, .int a1)] [] 0 := by
  unfold F_X2_isJoinedOn at hF
  refine r_aload_n (pc := 0) 0 dX2_isJoinedOn_0 rfl rfl ?_
  refine gf_X2_19 (pc := 1) (j := 0) rfl dX2_isJoinedOn_1 ?_
  refine r_if_eq (pc := 4) (tgt := 19) dX2_isJoinedOn_4 rfl hF (fun hF => ?_) (fun hF => ?_)
  · exact T.sub ((w_X2_isJoinedOn_p19) M hF) [] [] rfl rfl
  · refine r_aload_n (pc := 7) 0 dX2_isJoinedOn_7 rfl rfl ?_
    refine gf_X2_23 (pc := 8) (j := 0) rfl dX2_isJoinedOn_8 ?_
    refine r_iload_n (pc := 11) 1 dX2_isJoinedOn_11 rfl rfl ?_
    refine r_icmp_gt (pc := 12) (tgt := 19) dX2_isJoinedOn_12 rfl hF (fun hF => ?_) (fun hF => ?_)
    · exact T.sub ((w_X2_isJoinedOn_p19) M hF) [] [] rfl rfl
    · refine r_iconst (pc := 15) (w := 1) dX2_isJoinedOn_15 (by decide) ?_
      refine r_goto (pc := 16) (tgt := 20) dX2_isJoinedOn_16 rfl ?_
      exact T.sub ((w_X2_isJoinedOn_p20) M (1 : Int32) hF) [] [] rfl rfl
theorem k_X2_isJoinedOn (G : EG) (M : Mem) (a0 : Nat) (a1 : Int32) (q : Mem × Int32) (h : F_X2_isJoinedOn M a0 a1 = some q) : Kt yX2_isJoinedOn P_X2_isJoinedOn M [(a0, 4)] [.ref a0, .int a1] (RI G q) := Kt.of (by decide +kernel) rfl (Nat.le_of_ble_eq_true rfl) rfl (fun X hz => w_X2_isJoinedOn M a0 a1 h)
set_option maxHeartbeats 4000000 in
theorem w_X10_joinedOn_p39 {X : Option Cx} {G : EG} {res : Mem × Int32} {k4 : Mem → Nat → Int32 → Int32 → Int32 → Option (Mem × Int32)} (hk4 : ∀ (M : Mem) (x0 : Nat) (x1 : Int32) (x2 : Int32) (x3 : Int32), k4 M x0 x1 x2 x3 = some res → T X (RI G res) P_X10_joinedOn M [(x0, 12)] [(0, .ref x0), (1, .int x1), (2, .int x2), (3, .int x3)] [] 4) : ∀ (M : Mem) (x0 : Nat) (x1 : Int32) (x3 : Int32) (y0 : Int32) (y1 : Int32), F_X10_joinedOn_p39 k4 M x0 x1 x3 y0 y1 = some res → T X (RI G res) P_X10_joinedOn M [(x0, 12)] [(0, .ref x0), (1, .int x1), (3, .int x3)] [.int y1, .int y0] 39 := by
  intro M x0 x1 x3 y0 y1 hF
  unfold F_X10_joinedOn_p39 at hF
  refine r_iadd (pc := 39) dX10_joinedOn_39 ?_
  refine r_gI (pc := 40) hF (fun v1 hF => ?_)
  refine r_istore_n (pc := 40) (L1 := [(2, .int v1), (0, .ref x0), (1, .int x1), (3, .int x3)]) dX10_joinedOn_40 rfl (by decide) rfl ?_
  obtain ⟨v2, e9, hF⟩ := bnd_e hF
  refine r_iinc (pc := 41) (w := v2) (k := 3) (L1 := [(3, .int v2), (2, .int v1), (0, .ref x0), (1, .int x1)]) dX10_joinedOn_41 rfl (by rw [e9]; rfl) (by decide) rfl ?_
  clear e9
  refine r_goto (pc := 44) (tgt := 4) dX10_joinedOn_44 rfl ?_
  exact T.sub (hk4 M x0 x1 v1 v2 hF) [0] [2, 3, 1, 0] rfl rfl
set_option maxHeartbeats 4000000 in
theorem w_X10_joinedOn_p4 {X : Option Cx} {G : EG} {res : Mem × Int32} {k47 : Mem → Int32 → Option (Mem × Int32)} (hk47 : ∀ (M : Mem) (x2 : Int32), k47 M x2 = some res → T X (RI G res) P_X10_joinedOn M [] [(2, .int x2)] [] 47) : ∀ (n : Nat) (M : Mem) (x0 : Nat) (x1 : Int32) (x2 : Int32) (x3 : Int32), F_X10_joinedOn_p4 k47 n M x0 x1 x2 x3 = some res → T X (RI G res) P_X10_joinedOn M [(x0, 12)] [(0, .ref x0), (1, .int x1), (2, .int x2), (3, .int x3)] [] 4 := by
  intro n
  induction n with
  | zero =>
    intro M x0 x1 x2 x3 hF
    cases hF
  | succ n ih =>
    intro M x0 x1 x2 x3 hF
    unfold F_X10_joinedOn_p4 at hF
    refine r_iload_n (pc := 4) 3 dX10_joinedOn_4 rfl rfl ?_
    refine r_aload_n (pc := 5) 0 dX10_joinedOn_5 rfl rfl ?_
    refine gf_X10_12 (pc := 6) (j := 0) rfl dX10_joinedOn_6 ?_
    refine r_lr (by decide) hF (fun b1 hF => ?_)
    refine r_callV_I (pc := 9) (Py := P_Jx4a65c_size_8abf5) (n := 0) (As := []) (fun q e => k_Jx4a65c_size_8abf5 G _ b1 q e) (c := 0) (Tb := TJx4a65c) (N := 3) rfl (by decide) (j0 := 0) rfl tw_343 tw_344 tw_345 tw_64 tw_346 hd_Jx4a65c_size_8abf5 ⟨Nat.le_of_ble_eq_true rfl, Nat.le_of_ble_eq_true rfl⟩ rfl [0] rfl rfl (Nat.le_of_ble_eq_true rfl) dX10_joinedOn_9 hF (fun M2 r3 hF => ?_)
    refine r_icmp_ge (pc := 12) (tgt := 47) dX10_joinedOn_12 rfl hF (fun hF => ?_) (fun hF => ?_)
    · exact T.sub (hk47 M2 x2 hF) [] [2] rfl rfl
    · refine r_iload_n (pc := 15) 2 dX10_joinedOn_15 rfl rfl ?_
      refine r_aload_n (pc := 16) 0 dX10_joinedOn_16 rfl rfl ?_
      refine gf_X10_12 (pc := 17) (j := 1) rfl dX10_joinedOn_17 ?_
      refine r_lr (by decide) hF (fun b4 hF => ?_)
      refine r_iload_n (pc := 20) 3 dX10_joinedOn_20 rfl rfl ?_
      refine r_callV_R (pc := 21) (Py := P_Jx4a65c_get_915e3) (n := 1) (As := [.int x3]) (fun q e => k_Jx4a65c_get_915e3 G _ b4 x3 q e) (c := 0) (Tb := TJx4a65c) (N := 3) rfl (by decide) (j0 := 0) rfl tw_347 tw_348 tw_349 tw_64 tw_350 hd_Jx4a65c_get_915e3 ⟨Nat.le_of_ble_eq_true rfl, Nat.le_of_ble_eq_true rfl⟩ rfl [0] rfl rfl (Nat.le_of_ble_eq_true rfl) dX10_joinedOn_21 hF (fun M5 r6 hF => ?_)
      refine r_lr (by decide) hF (fun b7 hF => ?_)
      refine r_cast (pc := 24) (c := 3) (Tb := TX2) (N := 5) rfl (by decide) (j := 0) rfl tw_361 dX10_joinedOn_24 ?_
      refine r_iload_n (pc := 27) 1 dX10_joinedOn_27 rfl rfl ?_
      refine r_callV_I (pc := 28) (Py := P_X2_isJoinedOn) (n := 1) (As := [.int x1]) (fun q e => k_X2_isJoinedOn G _ b7 x1 q e) (c := 3) (Tb := TX2) (N := 5) rfl (by decide) (j0 := 0) rfl tw_362 tw_363 tw_364 tw_79 tw_365 hd_X2_isJoinedOn ⟨Nat.le_of_ble_eq_true rfl, Nat.le_of_ble_eq_true rfl⟩ rfl [0] rfl rfl (Nat.le_of_ble_eq_true rfl) dX10_joinedOn_28 hF (fun M8 r9 hF => ?_)
      refine r_if_eq (pc := 31) (tgt := 38) dX10_joinedOn_31 rfl hF (fun hF => ?_) (fun hF => ?_)
      · refine r_iconst (pc := 38) (w := 0) dX10_joinedOn_38 (by decide) ?_
        exact T.sub ((w_X10_joinedOn_p39 ih) M8 x0 x1 x3 x2 (0 : Int32) hF) [3] [0, 1, 3] rfl rfl
      · refine r_iconst (pc := 34) (w := 1) dX10_joinedOn_34 (by decide) ?_
        refine r_goto (pc := 35) (tgt := 39) dX10_joinedOn_35 rfl ?_
        exact T.sub ((w_X10_joinedOn_p39 ih) M8 x0 x1 x3 x2 (1 : Int32) hF) [3] [0, 1, 3] rfl rfl
set_option maxHeartbeats 4000000 in
theorem w_X10_joinedOn_p47 {X : Option Cx} {G : EG} {res : Mem × Int32} : ∀ (M : Mem) (x2 : Int32), F_X10_joinedOn_p47 M x2 = some res → T X (RI G res) P_X10_joinedOn M [] [(2, .int x2)] [] 47 := by
  intro M x2 hF
  unfold F_X10_joinedOn_p47 at hF
  refine r_iload_n (pc := 47) 0 dX10_joinedOn_47 rfl rfl ?_
  exact r_iret (pc := 48) dX10_joinedOn_48 hF
set_option maxHeartbeats 4000000 in
theorem w_X10_joinedOn {X : Option Cx} {G : EG} {res : Mem × Int32} (M : Mem) (a0 : Nat) (a1 : Int32) (hF : F_X10_joinedOn M a0 a1 = some res) : T X (RI G res) P_X10_joinedOn M [(a0, 12)] [(0, .ref a0), (1, .int a1)] [] 0 := by
  unfold F_X10_joinedOn at hF
  refine r_iconst (pc := 0) (w := 0) dX10_joinedOn_0 (by decide) ?_
  refine r_istore_n (pc := 1) (L1 := [(2, .int ((0 : Int32))), (0, .ref a0), (1, .int a1)]) dX10_joinedOn_1 rfl (by decide) rfl ?_
  refine r_iconst (pc := 2) (w := 0) dX10_joinedOn_2 (by decide) ?_
  refine r_istore_n (pc := 3) (L1 := [(3, .int ((0 : Int32))), (2, .int ((0 : Int32))), (0, .ref a0), (1, .int a1)]) dX10_joinedOn_3 rfl (by decide) rfl ?_
  exact T.sub ((w_X10_joinedOn_p4 (w_X10_joinedOn_p47) FU) M a0 a1 (0 : Int32) (0 : Int32) hF) [0] [2, 3, 1, 0] rfl rfl
theorem k_X10_joinedOn (G : EG) (M : Mem) (a0 : Nat) (a1 : Int32) (q : Mem × Int32) (h : F_X10_joinedOn M a0 a1 = some q) : Kt yX10_joinedOn P_X10_joinedOn M [(a0, 12)] [.ref a0, .int a1] (RI G q) := Kt.of (by decide +kernel) rfl (Nat.le_of_ble_eq_true rfl) rfl (fun X hz => w_X10_joinedOn M a0 a1 h)
set_option maxHeartbeats 4000000 in
theorem w_X11_inRound_p17 {X : Option Cx} {G : EG} {res : Mem × Int32} : ∀ (M : Mem) (y0 : Int32), F_X11_inRound_p17 M y0 = some res → T X (RI G res) P_X11_inRound M [] [] [.int y0] 17 := by
  intro M y0 hF
  unfold F_X11_inRound_p17 at hF
  exact r_iret (pc := 17) dX11_inRound_17 hF
set_option maxHeartbeats 4000000 in
theorem w_X11_inRound {X : Option Cx} {G : EG} {res : Mem × Int32} (M : Mem) (a0 : Nat) (a1 : Int32) (hF : F_X11_inRound M a0 a1 = some res) : T X (RI G res) P_X11_inRound M [(a0, 20)] [(0, .ref a0), (1, .int a1)] [] 0 := by
  unfold F_X11_inRound at hF
  refine r_aload_n (pc := 0) 0 dX11_inRound_0 rfl rfl ?_
  refine r_alen (pc := 1) (j := 0) rfl (by decide) dX11_inRound_1 ?_
  refine r_if_ne (pc := 2) (tgt := 9) dX11_inRound_2 rfl hF (fun hF => ?_) (fun hF => ?_)
  · refine r_aload_n (pc := 9) 0 dX11_inRound_9 rfl rfl ?_
    refine r_iload_n (pc := 10) 1 dX11_inRound_10 rfl rfl ?_
    refine r_aload_n (pc := 11) 0 dX11_inRound_11 rfl rfl ?_
    refine r_alen (pc := 12) (j := 0) rfl (by decide) dX11_inRound_12 ?_
    refine r_mfm (pc := 13) tw_337 tw_338 tw_71 tw_339 ⟨Nat.le_of_ble_eq_true rfl, Nat.le_of_ble_eq_true rfl⟩ (Nat.le_of_ble_eq_true rfl) dX11_inRound_13 hF (fun hF => ?_)
    refine r_iald (pc := 16) (j := 0) rfl dX11_inRound_16 hF (fun hF => ?_)
    exact T.sub ((w_X11_inRound_p17) M (gA M a0 (ixn (fmI a1 (Int32.ofNat (gN M a0))))) hF) [] [] rfl rfl
  · refine r_iconst (pc := 5) (w := 0) dX11_inRound_5 (by decide) ?_
    refine r_goto (pc := 6) (tgt := 17) dX11_inRound_6 rfl ?_
    exact T.sub ((w_X11_inRound_p17) M (0 : Int32) hF) [] [] rfl rfl
theorem k_X11_inRound (G : EG) (M : Mem) (a0 : Nat) (a1 : Int32) (q : Mem × Int32) (h : F_X11_inRound M a0 a1 = some q) : Kt yX11_inRound P_X11_inRound M [(a0, 20)] [.ref a0, .int a1] (RI G q) := Kt.of (by decide +kernel) rfl (Nat.le_of_ble_eq_true rfl) rfl (fun X hz => w_X11_inRound M a0 a1 h)
set_option maxHeartbeats 4000000 in
theorem w_X10_needOf_p121 {X : Option Cx} {G : EG} {res : Mem × Int64} {k27 : Mem → Nat → Int32 → Int32 → Int32 → Int64 → Int32 → Option (Mem × Int64)} (hk27 : ∀ (M : Mem) (x0 : Nat) (x1 : Int32) (x2 : Int32) (x3 : Int32) (x4 : Int64) (x6 : Int32), k27 M x0 x1 x2 x3 x4 x6 = some res → T X (RJ G res) P_X10_needOf M [(x0, 12)] [(0, .ref x0), (1, .int x1), (2, .int x2), (3, .int x3), (4, .long x4), (6, .int x6)] [] 27) : ∀ (M : Mem) (x0 : Nat) (x1 : Int32) (x2 : Int32) (x3 : Int32) (x4 : Int64) (x6 : Int32), F_X10_needOf_p121 k27 M x0 x1 x2 x3 x4 x6 = some res → T X (RJ G res) P_X10_needOf M [(x0, 12)] [(0, .ref x0), (1, .int x1), (2, .int x2), (3, .int x3), (4, .long x4), (6, .int x6)] [] 121 := by
  intro M x0 x1 x2 x3 x4 x6 hF
  unfold F_X10_needOf_p121 at hF
  obtain ⟨v1, e9, hF⟩ := bnd_e hF
  refine r_iinc (pc := 121) (w := v1) (k := 5) (L1 := [(6, .int v1), (0, .ref x0), (1, .int x1), (2, .int x2), (3, .int x3), (4, .long x4)]) dX10_needOf_121 rfl (by rw [e9]; rfl) (by decide) rfl ?_
  clear e9
  refine r_goto (pc := 124) (tgt := 27) dX10_needOf_124 rfl ?_
  exact T.sub (hk27 M x0 x1 x2 x3 x4 v1 hF) [0] [1, 2, 3, 4, 5, 0] rfl rfl
set_option maxHeartbeats 4000000 in
theorem w_X10_needOf_p118 {X : Option Cx} {G : EG} {res : Mem × Int64} {k27 : Mem → Nat → Int32 → Int32 → Int32 → Int64 → Int32 → Option (Mem × Int64)} (hk27 : ∀ (M : Mem) (x0 : Nat) (x1 : Int32) (x2 : Int32) (x3 : Int32) (x4 : Int64) (x6 : Int32), k27 M x0 x1 x2 x3 x4 x6 = some res → T X (RJ G res) P_X10_needOf M [(x0, 12)] [(0, .ref x0), (1, .int x1), (2, .int x2), (3, .int x3), (4, .long x4), (6, .int x6)] [] 27) : ∀ (M : Mem) (x0 : Nat) (x1 : Int32) (x2 : Int32) (x3 : Int32) (x6 : Int32) (y0 : Int64) (y1 : Int64), F_X10_needOf_p118 k27 M x0 x1 x2 x3 x6 y0 y1 = some res → T X (RJ G res) P_X10_needOf M [(x0, 12)] [(0, .ref x0), (1, .int x1), (2, .int x2), (3, .int x3), (6, .int x6)] [.long y1, .long y0] 118 := by
  intro M x0 x1 x2 x3 x6 y0 y1 hF
  unfold F_X10_needOf_p118 at hF
  refine r_ladd (pc := 118) dX10_needOf_118 ?_
  refine r_gJ (pc := 119) hF (fun v1 hF => ?_)
  refine r_lstore (pc := 119) (L1 := [(4, .long v1), (0, .ref x0), (1, .int x1), (2, .int x2), (3, .int x3), (6, .int x6)]) dX10_needOf_119 (by decide) rfl ?_
  exact T.sub ((w_X10_needOf_p121 hk27) M x0 x1 x2 x3 v1 x6 hF) [0] [1, 2, 3, 4, 0, 5] rfl rfl
set_option maxHeartbeats 4000000 in
theorem w_X10_needOf_p98 {X : Option Cx} {G : EG} {res : Mem × Int64} {k27 : Mem → Nat → Int32 → Int32 → Int32 → Int64 → Int32 → Option (Mem × Int64)} (hk27 : ∀ (M : Mem) (x0 : Nat) (x1 : Int32) (x2 : Int32) (x3 : Int32) (x4 : Int64) (x6 : Int32), k27 M x0 x1 x2 x3 x4 x6 = some res → T X (RJ G res) P_X10_needOf M [(x0, 12)] [(0, .ref x0), (1, .int x1), (2, .int x2), (3, .int x3), (4, .long x4), (6, .int x6)] [] 27) : ∀ (M : Mem) (x0 : Nat) (x1 : Int32) (x2 : Int32) (x3 : Int32) (x4 : Int64) (x6 : Int32) (x8 : Int32) (y0 : Int32), F_X10_needOf_p98 k27 M x0 x1 x2 x3 x4 x6 x8 y0 = some res → T X (RJ G res) P_X10_needOf M [(x0, 12)] [(0, .ref x0), (1, .int x1), (2, .int x2), (3, .int x3), (4, .long x4), (6, .int x6), (8, .int x8)] [.int y0] 98 := by
  intro M x0 x1 x2 x3 x4 x6 x8 y0 hF
  unfold F_X10_needOf_p98 at hF
  refine r_istore (pc := 98) (L1 := [(9, .int y0), (0, .ref x0), (1, .int x1), (2, .int x2), (3, .int x3), (4, .long x4), (6, .int x6), (8, .int x8)]) dX10_needOf_98 (by decide) rfl ?_
  refine r_lload (pc := 100) 5 dX10_needOf_100 rfl ?_
  refine r_iload (pc := 102) 0 dX10_needOf_102 rfl ?_
  refine r_if_eq (pc := 104) (tgt := 113) dX10_needOf_104 rfl hF (fun hF => ?_) (fun hF => ?_)
  · refine r_iload (pc := 113) 7 dX10_needOf_113 rfl ?_
    refine r_iconst (pc := 115) (w := 2) dX10_needOf_115 (by decide) ?_
    refine r_idivc (pc := 116) dX10_needOf_116 (by decide) ?_
    refine r_i2l (pc := 117) dX10_needOf_117 ?_
    exact T.sub ((w_X10_needOf_p118 hk27) M x0 x1 x2 x3 x6 x4 ((x8 / (2 : Int32)).toInt64) hF) [0] [1, 2, 3, 4, 6] rfl rfl
  · refine r_iload (pc := 107) 7 dX10_needOf_107 rfl ?_
    refine r_i2l (pc := 109) dX10_needOf_109 ?_
    refine r_goto (pc := 110) (tgt := 118) dX10_needOf_110 rfl ?_
    exact T.sub ((w_X10_needOf_p118 hk27) M x0 x1 x2 x3 x6 x4 (x8.toInt64) hF) [0] [1, 2, 3, 4, 6] rfl rfl
set_option maxHeartbeats 4000000 in
theorem w_X10_needOf_p27 {X : Option Cx} {G : EG} {res : Mem × Int64} {k127 : Mem → Int64 → Option (Mem × Int64)} (hk127 : ∀ (M : Mem) (x4 : Int64), k127 M x4 = some res → T X (RJ G res) P_X10_needOf M [] [(4, .long x4)] [] 127) : ∀ (n : Nat) (M : Mem) (x0 : Nat) (x1 : Int32) (x2 : Int32) (x3 : Int32) (x4 : Int64) (x6 : Int32), F_X10_needOf_p27 k127 n M x0 x1 x2 x3 x4 x6 = some res → T X (RJ G res) P_X10_needOf M [(x0, 12)] [(0, .ref x0), (1, .int x1), (2, .int x2), (3, .int x3), (4, .long x4), (6, .int x6)] [] 27 := by
  intro n
  induction n with
  | zero =>
    intro M x0 x1 x2 x3 x4 x6 hF
    cases hF
  | succ n ih =>
    intro M x0 x1 x2 x3 x4 x6 hF
    unfold F_X10_needOf_p27 at hF
    refine r_iload (pc := 27) 5 dX10_needOf_27 rfl ?_
    refine r_aload_n (pc := 29) 0 dX10_needOf_29 rfl rfl ?_
    refine gf_X10_12 (pc := 30) (j := 0) rfl dX10_needOf_30 ?_
    refine r_lr (by decide) hF (fun b1 hF => ?_)
    refine r_callV_I (pc := 33) (Py := P_Jx4a65c_size_8abf5) (n := 0) (As := []) (fun q e => k_Jx4a65c_size_8abf5 G _ b1 q e) (c := 0) (Tb := TJx4a65c) (N := 3) rfl (by decide) (j0 := 0) rfl tw_343 tw_344 tw_345 tw_64 tw_346 hd_Jx4a65c_size_8abf5 ⟨Nat.le_of_ble_eq_true rfl, Nat.le_of_ble_eq_true rfl⟩ rfl [0] rfl rfl (Nat.le_of_ble_eq_true rfl) dX10_needOf_33 hF (fun M2 r3 hF => ?_)
    refine r_icmp_ge (pc := 36) (tgt := 127) dX10_needOf_36 rfl hF (fun hF => ?_) (fun hF => ?_)
    · exact T.sub (hk127 M2 x4 hF) [] [4] rfl rfl
    · refine r_aload_n (pc := 39) 0 dX10_needOf_39 rfl rfl ?_
      refine gf_X10_12 (pc := 40) (j := 1) rfl dX10_needOf_40 ?_
      refine r_lr (by decide) hF (fun b4 hF => ?_)
      refine r_iload (pc := 43) 5 dX10_needOf_43 rfl ?_
      refine r_callV_R (pc := 45) (Py := P_Jx4a65c_get_915e3) (n := 1) (As := [.int x6]) (fun q e => k_Jx4a65c_get_915e3 G _ b4 x6 q e) (c := 0) (Tb := TJx4a65c) (N := 3) rfl (by decide) (j0 := 0) rfl tw_347 tw_348 tw_349 tw_64 tw_350 hd_Jx4a65c_get_915e3 ⟨Nat.le_of_ble_eq_true rfl, Nat.le_of_ble_eq_true rfl⟩ rfl [0] rfl rfl (Nat.le_of_ble_eq_true rfl) dX10_needOf_45 hF (fun M5 r6 hF => ?_)
      refine r_lr (by decide) hF (fun b7 hF => ?_)
      refine r_cast (pc := 48) (c := 3) (Tb := TX2) (N := 5) rfl (by decide) (j := 0) rfl tw_361 dX10_needOf_48 ?_
      refine r_astore (pc := 51) (L1 := [(7, .ref b7), (0, .ref x0), (1, .int x1), (2, .int x2), (3, .int x3), (4, .long x4), (6, .int x6)]) dX10_needOf_51 (by decide) rfl ?_
      refine r_aload (pc := 53) 0 dX10_needOf_53 rfl ?_
      refine r_iload_n (pc := 55) 3 dX10_needOf_55 rfl rfl ?_
      refine r_callV_I (pc := 56) (Py := P_X2_isJoinedOn) (n := 1) (As := [.int x2]) (fun q e => k_X2_isJoinedOn G _ b7 x2 q e) (c := 3) (Tb := TX2) (N := 5) rfl (by decide) (j0 := 0) rfl tw_362 tw_363 tw_364 tw_79 tw_365 hd_X2_isJoinedOn ⟨Nat.le_of_ble_eq_true rfl, Nat.le_of_ble_eq_true rfl⟩ rfl [0] rfl rfl (Nat.le_of_ble_eq_true rfl) dX10_needOf_56 hF (fun M8 r9 hF => ?_)
      refine r_if_eq (pc := 59) (tgt := 121) dX10_needOf_59 rfl hF (fun hF => ?_) (fun hF => ?_)
      · exact T.sub ((w_X10_needOf_p121 ih) M8 x0 x1 x2 x3 x4 x6 hF) [3] [1, 2, 3, 4, 5, 6] rfl rfl
      · refine r_aload (pc := 62) 0 dX10_needOf_62 rfl ?_
        refine gf_X10_52 (pc := 64) (j := 0) rfl dX10_needOf_64 ?_
        refine r_aload (pc := 67) 0 dX10_needOf_67 rfl ?_
        refine gf_X10_56 (pc := 69) (j := 0) rfl dX10_needOf_69 ?_
        refine r_iload_n (pc := 72) 4 dX10_needOf_72 rfl rfl ?_
        refine r_imul (pc := 73) dX10_needOf_73 ?_
        refine r_iadd (pc := 74) dX10_needOf_74 ?_
        refine r_gI (pc := 75) hF (fun v10 hF => ?_)
        refine r_istore (pc := 75) (L1 := [(8, .int v10), (7, .ref b7), (0, .ref x0), (1, .int x1), (2, .int x2), (3, .int x3), (4, .long x4), (6, .int x6)]) dX10_needOf_75 (by decide) rfl ?_
        refine r_aload (pc := 77) 1 dX10_needOf_77 rfl ?_
        refine gf_X10_59 (pc := 79) (j := 0) rfl dX10_needOf_79 ?_
        refine r_iload_n (pc := 82) 3 dX10_needOf_82 rfl rfl ?_
        refine r_bipush (pc := 83) (w := 24) dX10_needOf_83 (by decide) ?_
        refine r_iremc (pc := 85) dX10_needOf_85 (by decide) ?_
        refine r_ishr (pc := 86) dX10_needOf_86 ?_
        refine r_iconst (pc := 87) (w := 1) dX10_needOf_87 (by decide) ?_
        refine r_iand (pc := 88) dX10_needOf_88 ?_
        refine r_iconst (pc := 89) (w := 1) dX10_needOf_89 (by decide) ?_
        refine r_icmp_ne (pc := 90) (tgt := 97) dX10_needOf_90 rfl hF (fun hF => ?_) (fun hF => ?_)
        · refine r_iconst (pc := 97) (w := 0) dX10_needOf_97 (by decide) ?_
          exact T.sub ((w_X10_needOf_p98 ih) M8 x0 x1 x2 x3 x4 x6 v10 (0 : Int32) hF) [3] [2, 3, 4, 5, 6, 7, 0] rfl rfl
        · refine r_iconst (pc := 93) (w := 1) dX10_needOf_93 (by decide) ?_
          refine r_goto (pc := 94) (tgt := 98) dX10_needOf_94 rfl ?_
          exact T.sub ((w_X10_needOf_p98 ih) M8 x0 x1 x2 x3 x4 x6 v10 (1 : Int32) hF) [3] [2, 3, 4, 5, 6, 7, 0] rfl rfl
set_option maxHeartbeats 4000000 in
theorem w_X10_needOf_p127 {X : Option Cx} {G : EG} {res : Mem × Int64} : ∀ (M : Mem) (x4 : Int64), F_X10_needOf_p127 M x4 = some res → T X (RJ G res) P_X10_needOf M [] [(4, .long x4)] [] 127 := by
  intro M x4 hF
  unfold F_X10_needOf_p127 at hF
  refine r_lload (pc := 127) 0 dX10_needOf_127 rfl ?_
  exact r_lret (pc := 129) dX10_needOf_129 hF
set_option maxHeartbeats 4000000 in
theorem w_X10_needOf {X : Option Cx} {G : EG} {res : Mem × Int64} (M : Mem) (a0 : Nat) (a1 : Int32) (hF : F_X10_needOf M a0 a1 = some res) : T X (RJ G res) P_X10_needOf M [(a0, 12)] [(0, .ref a0), (1, .int a1)] [] 0 := by
  unfold F_X10_needOf at hF
  refine r_iload_n (pc := 0) 1 dX10_needOf_0 rfl rfl ?_
  refine r_bipush (pc := 1) (w := 24) dX10_needOf_1 (by decide) ?_
  refine r_idivc (pc := 3) dX10_needOf_3 (by decide) ?_
  refine r_gI (pc := 4) hF (fun v1 hF => ?_)
  refine r_istore_n (pc := 4) (L1 := [(2, .int v1), (0, .ref a0), (1, .int a1)]) dX10_needOf_4 rfl (by decide) rfl ?_
  refine r_iconst (pc := 5) (w := 0) dX10_needOf_5 (by decide) ?_
  refine r_bipush (pc := 6) (w := 15) dX10_needOf_6 (by decide) ?_
  refine r_aload_n (pc := 8) 1 dX10_needOf_8 rfl rfl ?_
  refine gf_X10_18 (pc := 9) (j := 0) rfl dX10_needOf_9 ?_
  refine r_lr (by decide) hF (fun b2 hF => ?_)
  refine r_iload_n (pc := 12) 0 dX10_needOf_12 rfl rfl ?_
  refine r_callSN_I (pc := 13) (Py := P_X11_inRound) (n := 2) (As := [.ref b2, .int v1]) (fun q e => k_X11_inRound G _ b2 v1 q e) tw_334 tw_335 tw_60 tw_336 hd_X11_inRound ⟨Nat.le_of_ble_eq_true rfl, Nat.le_of_ble_eq_true rfl⟩ rfl [0] rfl rfl (Nat.le_of_ble_eq_true rfl) dX10_needOf_13 hF (fun M3 r4 hF => ?_)
  refine r_isub (pc := 16) dX10_needOf_16 ?_
  refine r_mmax (pc := 17) tw_340 tw_341 tw_71 tw_342 ⟨Nat.le_of_ble_eq_true rfl, Nat.le_of_ble_eq_true rfl⟩ (Nat.le_of_ble_eq_true rfl) dX10_needOf_17 ?_
  refine r_gI (pc := 20) hF (fun v5 hF => ?_)
  refine r_istore_n (pc := 20) (L1 := [(3, .int v5), (2, .int v1), (0, .ref a0), (1, .int a1)]) dX10_needOf_20 rfl (by decide) rfl ?_
  refine r_lconst (pc := 21) (w := 0) dX10_needOf_21 (by decide) ?_
  refine r_lstore (pc := 22) (L1 := [(4, .long ((0 : Int64))), (3, .int v5), (2, .int v1), (0, .ref a0), (1, .int a1)]) dX10_needOf_22 (by decide) rfl ?_
  refine r_iconst (pc := 24) (w := 0) dX10_needOf_24 (by decide) ?_
  refine r_istore (pc := 25) (L1 := [(6, .int ((0 : Int32))), (4, .long ((0 : Int64))), (3, .int v5), (2, .int v1), (0, .ref a0), (1, .int a1)]) dX10_needOf_25 (by decide) rfl ?_
  exact T.sub ((w_X10_needOf_p27 (w_X10_needOf_p127) FU) M3 a0 a1 v1 v5 (0 : Int64) (0 : Int32) hF) [1] [4, 5, 3, 2, 1, 0] rfl rfl
theorem k_X10_needOf (G : EG) (M : Mem) (a0 : Nat) (a1 : Int32) (q : Mem × Int64) (h : F_X10_needOf M a0 a1 = some q) : Kt yX10_needOf P_X10_needOf M [(a0, 12)] [.ref a0, .int a1] (RJ G q) := Kt.of (by decide +kernel) rfl (Nat.le_of_ble_eq_true rfl) rfl (fun X hz => w_X10_needOf M a0 a1 h)
set_option maxHeartbeats 4000000 in
theorem w_X11_beyond_p19 {X : Option Cx} {G : EG} {res : Mem × Int32} : ∀ (M : Mem) (y0 : Int32), F_X11_beyond_p19 M y0 = some res → T X (RI G res) P_X11_beyond M [] [] [.int y0] 19 := by
  intro M y0 hF
  unfold F_X11_beyond_p19 at hF
  exact r_iret (pc := 19) dX11_beyond_19 hF
set_option maxHeartbeats 4000000 in
theorem w_X11_beyond {X : Option Cx} {G : EG} {res : Mem × Int32} (M : Mem) (a0 : Int32) (a1 : Int32) (a2 : Int32) (hF : F_X11_beyond M a0 a1 a2 = some res) : T X (RI G res) P_X11_beyond M [] [(0, .int a0), (1, .int a1), (2, .int a2)] [] 0 := by
  unfold F_X11_beyond at hF
  refine r_iload_n (pc := 0) 0 dX11_beyond_0 rfl rfl ?_
  refine r_iload_n (pc := 1) 1 dX11_beyond_1 rfl rfl ?_
  refine r_icmp_ge (pc := 2) (tgt := 8) dX11_beyond_2 rfl hF (fun hF => ?_) (fun hF => ?_)
  · refine r_iload_n (pc := 8) 0 dX11_beyond_8 rfl rfl ?_
    refine r_iload_n (pc := 9) 2 dX11_beyond_9 rfl rfl ?_
    refine r_icmp_le (pc := 10) (tgt := 18) dX11_beyond_10 rfl hF (fun hF => ?_) (fun hF => ?_)
    · refine r_iconst (pc := 18) (w := 0) dX11_beyond_18 (by decide) ?_
      exact T.sub ((w_X11_beyond_p19) M (0 : Int32) hF) [] [] rfl rfl
    · refine r_bipush (pc := 13) (w := -6) dX11_beyond_13 (by decide) ?_
      refine r_goto (pc := 15) (tgt := 19) dX11_beyond_15 rfl ?_
      exact T.sub ((w_X11_beyond_p19) M (-6 : Int32) hF) [] [] rfl rfl
  · refine r_bipush (pc := 5) (w := -4) dX11_beyond_5 (by decide) ?_
    exact r_iret (pc := 7) dX11_beyond_7 hF
theorem k_X11_beyond (G : EG) (M : Mem) (a0 : Int32) (a1 : Int32) (a2 : Int32) (q : Mem × Int32) (h : F_X11_beyond M a0 a1 a2 = some q) : Kt yX11_beyond P_X11_beyond M [] [.int a0, .int a1, .int a2] (RI G q) := Kt.of (by decide +kernel) rfl (Nat.le_of_ble_eq_true rfl) rfl (fun X hz => w_X11_beyond M a0 a1 a2 h)
set_option maxHeartbeats 4000000 in
theorem w_X1_coldestNow_p6 {X : Option Cx} {G : EG} {res : Mem × Int64} {k45 : Mem → Int64 → Option (Mem × Int64)} (hk45 : ∀ (M : Mem) (x1 : Int64), k45 M x1 = some res → T X (RJ G res) P_X1_coldestNow M [] [(1, .long x1)] [] 45) : ∀ (n : Nat) (M : Mem) (x0 : Nat) (x1 : Int64) (x3 : Int32), F_X1_coldestNow_p6 k45 n M x0 x1 x3 = some res → T X (RJ G res) P_X1_coldestNow M [(x0, 3)] [(0, .ref x0), (1, .long x1), (3, .int x3)] [] 6 := by
  intro n
  induction n with
  | zero =>
    intro M x0 x1 x3 hF
    cases hF
  | succ n ih =>
    intro M x0 x1 x3 hF
    unfold F_X1_coldestNow_p6 at hF
    refine r_iload_n (pc := 6) 2 dX1_coldestNow_6 rfl rfl ?_
    refine r_aload_n (pc := 7) 0 dX1_coldestNow_7 rfl rfl ?_
    refine gf_X1_12 (pc := 8) (j := 0) rfl dX1_coldestNow_8 ?_
    refine r_lr (by decide) hF (fun b1 hF => ?_)
    refine r_callV_I (pc := 11) (Py := P_Jx4a65c_size_8abf5) (n := 0) (As := []) (fun q e => k_Jx4a65c_size_8abf5 G _ b1 q e) (c := 0) (Tb := TJx4a65c) (N := 3) rfl (by decide) (j0 := 0) rfl tw_375 tw_344 tw_345 tw_64 tw_346 hd_Jx4a65c_size_8abf5 ⟨Nat.le_of_ble_eq_true rfl, Nat.le_of_ble_eq_true rfl⟩ rfl [0] rfl rfl (Nat.le_of_ble_eq_true rfl) dX1_coldestNow_11 hF (fun M2 r3 hF => ?_)
    refine r_icmp_ge (pc := 14) (tgt := 45) dX1_coldestNow_14 rfl hF (fun hF => ?_) (fun hF => ?_)
    · exact T.sub (hk45 M2 x1 hF) [] [1] rfl rfl
    · refine r_lload_n (pc := 17) 1 dX1_coldestNow_17 rfl rfl ?_
      refine r_aload_n (pc := 18) 0 dX1_coldestNow_18 rfl rfl ?_
      refine gf_X1_12 (pc := 19) (j := 1) rfl dX1_coldestNow_19 ?_
      refine r_lr (by decide) hF (fun b4 hF => ?_)
      refine r_iload_n (pc := 22) 2 dX1_coldestNow_22 rfl rfl ?_
      refine r_callV_R (pc := 23) (Py := P_Jx4a65c_get_915e3) (n := 1) (As := [.int x3]) (fun q e => k_Jx4a65c_get_915e3 G _ b4 x3 q e) (c := 0) (Tb := TJx4a65c) (N := 3) rfl (by decide) (j0 := 0) rfl tw_376 tw_348 tw_349 tw_64 tw_350 hd_Jx4a65c_get_915e3 ⟨Nat.le_of_ble_eq_true rfl, Nat.le_of_ble_eq_true rfl⟩ rfl [0] rfl rfl (Nat.le_of_ble_eq_true rfl) dX1_coldestNow_23 hF (fun M5 r6 hF => ?_)
      refine r_lr (by decide) hF (fun b7 hF => ?_)
      refine r_cast (pc := 26) (c := 1) (Tb := TX0) (N := 11) rfl (by decide) (j := 0) rfl tw_377 dX1_coldestNow_26 ?_
      refine gf_X1_113 (pc := 29) (j := 0) rfl dX1_coldestNow_29 ?_
      refine r_lr (by decide) hF (fun b8 hF => ?_)
      refine gf_X1_127 (pc := 32) (j := 0) rfl dX1_coldestNow_32 ?_
      refine r_mminl (pc := 35) tw_433 tw_434 tw_71 tw_435 ⟨Nat.le_of_ble_eq_true rfl, Nat.le_of_ble_eq_true rfl⟩ (Nat.le_of_ble_eq_true rfl) dX1_coldestNow_35 ?_
      refine r_gJ (pc := 38) hF (fun v9 hF => ?_)
      refine r_lstore_n (pc := 38) (L1 := [(1, .long v9), (0, .ref x0), (3, .int x3)]) dX1_coldestNow_38 rfl (by decide) rfl ?_
      obtain ⟨v10, e9, hF⟩ := bnd_e hF
      refine r_iinc (pc := 39) (w := v10) (k := 2) (L1 := [(3, .int v10), (1, .long v9), (0, .ref x0)]) dX1_coldestNow_39 rfl (by rw [e9]; rfl) (by decide) rfl ?_
      clear e9
      refine r_goto (pc := 42) (tgt := 6) dX1_coldestNow_42 rfl ?_
      exact T.sub (ih M5 x0 v9 v10 hF) [4] [2, 1, 0] rfl rfl
set_option maxHeartbeats 4000000 in
theorem w_X1_coldestNow_p45 {X : Option Cx} {G : EG} {res : Mem × Int64} : ∀ (M : Mem) (x1 : Int64), F_X1_coldestNow_p45 M x1 = some res → T X (RJ G res) P_X1_coldestNow M [] [(1, .long x1)] [] 45 := by
  intro M x1 hF
  unfold F_X1_coldestNow_p45 at hF
  refine r_lload_n (pc := 45) 0 dX1_coldestNow_45 rfl rfl ?_
  exact r_lret (pc := 46) dX1_coldestNow_46 hF
set_option maxHeartbeats 4000000 in
theorem w_X1_coldestNow {X : Option Cx} {G : EG} {res : Mem × Int64} (M : Mem) (a0 : Nat) (hF : F_X1_coldestNow M a0 = some res) : T X (RJ G res) P_X1_coldestNow M [(a0, 3)] [(0, .ref a0)] [] 0 := by
  unfold F_X1_coldestNow at hF
  refine r_ldc2 (pc := 0) (w := 4000000000000000000) tw_976 dX1_coldestNow_0 ?_
  refine r_lstore_n (pc := 3) (L1 := [(1, .long ((4000000000000000000 : Int64))), (0, .ref a0)]) dX1_coldestNow_3 rfl (by decide) rfl ?_
  refine r_iconst (pc := 4) (w := 0) dX1_coldestNow_4 (by decide) ?_
  refine r_istore_n (pc := 5) (L1 := [(3, .int ((0 : Int32))), (1, .long ((4000000000000000000 : Int64))), (0, .ref a0)]) dX1_coldestNow_5 rfl (by decide) rfl ?_
  exact T.sub ((w_X1_coldestNow_p6 (w_X1_coldestNow_p45) FU) M a0 (4000000000000000000 : Int64) (0 : Int32) hF) [0] [2, 1, 0] rfl rfl
theorem k_X1_coldestNow (G : EG) (M : Mem) (a0 : Nat) (q : Mem × Int64) (h : F_X1_coldestNow M a0 = some q) : Kt yX1_coldestNow P_X1_coldestNow M [(a0, 3)] [.ref a0] (RJ G q) := Kt.of (by decide +kernel) rfl (Nat.le_of_ble_eq_true rfl) rfl (fun X hz => w_X1_coldestNow M a0 h)
set_option maxHeartbeats 4000000 in
theorem w_X1_layFlows_p57 {X : Option Cx} {G : EG} {res : Mem × Unit} {k93 : Mem → Nat → Int32 → Option (Mem × Unit)} (hk93 : ∀ (M : Mem) (x0 : Nat) (x1 : Int32), k93 M x0 x1 = some res → T X (RV G res) P_X1_layFlows M [(x0, 3)] [(0, .ref x0), (1, .int x1)] [] 93) : ∀ (n : Nat) (M : Mem) (x0 : Nat) (x1 : Int32) (x2 : Nat) (x3 : Int32), F_X1_layFlows_p57 k93 n M x0 x1 x2 x3 = some res → T X (RV G res) P_X1_layFlows M [(x0, 3), (x2, 2)] [(0, .ref x0), (1, .int x1), (2, .ref x2), (3, .int x3)] [] 57 := by
  intro n
  induction n with
  | zero =>
    intro M x0 x1 x2 x3 hF
    cases hF
  | succ n ih =>
    intro M x0 x1 x2 x3 hF
    unfold F_X1_layFlows_p57 at hF
    refine r_iload_n (pc := 57) 3 dX1_layFlows_57 rfl rfl ?_
    refine r_aload_n (pc := 58) 0 dX1_layFlows_58 rfl rfl ?_
    refine gf_X1_12 (pc := 59) (j := 0) rfl dX1_layFlows_59 ?_
    refine r_lr (by decide) hF (fun b1 hF => ?_)
    refine r_callV_I (pc := 62) (Py := P_Jx4a65c_size_8abf5) (n := 0) (As := []) (fun q e => k_Jx4a65c_size_8abf5 G _ b1 q e) (c := 0) (Tb := TJx4a65c) (N := 3) rfl (by decide) (j0 := 0) rfl tw_375 tw_344 tw_345 tw_64 tw_346 hd_Jx4a65c_size_8abf5 ⟨Nat.le_of_ble_eq_true rfl, Nat.le_of_ble_eq_true rfl⟩ rfl [0] rfl rfl (Nat.le_of_ble_eq_true rfl) dX1_layFlows_62 hF (fun M2 r3 hF => ?_)
    refine r_icmp_ge (pc := 65) (tgt := 93) dX1_layFlows_65 rfl hF (fun hF => ?_) (fun hF => ?_)
    · exact T.sub (hk93 M2 x0 x1 hF) [1] [0, 1] rfl rfl
    · refine r_aload_n (pc := 68) 2 dX1_layFlows_68 rfl rfl ?_
      refine r_aload_n (pc := 69) 0 dX1_layFlows_69 rfl rfl ?_
      refine gf_X1_12 (pc := 70) (j := 1) rfl dX1_layFlows_70 ?_
      refine r_lr (by decide) hF (fun b4 hF => ?_)
      refine r_iload_n (pc := 73) 3 dX1_layFlows_73 rfl rfl ?_
      refine r_callV_R (pc := 74) (Py := P_Jx4a65c_get_915e3) (n := 1) (As := [.int x3]) (fun q e => k_Jx4a65c_get_915e3 G _ b4 x3 q e) (c := 0) (Tb := TJx4a65c) (N := 3) rfl (by decide) (j0 := 0) rfl tw_376 tw_348 tw_349 tw_64 tw_350 hd_Jx4a65c_get_915e3 ⟨Nat.le_of_ble_eq_true rfl, Nat.le_of_ble_eq_true rfl⟩ rfl [0] rfl rfl (Nat.le_of_ble_eq_true rfl) dX1_layFlows_74 hF (fun M5 r6 hF => ?_)
      refine r_lr (by decide) hF (fun b7 hF => ?_)
      refine r_cast (pc := 77) (c := 1) (Tb := TX0) (N := 11) rfl (by decide) (j := 0) rfl tw_377 dX1_layFlows_77 ?_
      refine r_aload_n (pc := 80) 0 dX1_layFlows_80 rfl rfl ?_
      refine gf_X1_80 (pc := 81) (j := 3) rfl dX1_layFlows_81 ?_
      refine r_callV_V (pc := 84) (Py := P_X0_shareWith) (n := 2) (As := [.ref b7, .int (gI M5 205 x0)]) (fun q e => k_X0_shareWith G _ x2 b7 (gI M5 205 x0) q e) (c := 1) (Tb := TX0) (N := 11) rfl (by decide) (j0 := 4) rfl tw_391 tw_392 tw_393 tw_74 tw_394 hd_X0_shareWith ⟨Nat.le_of_ble_eq_true rfl, Nat.le_of_ble_eq_true rfl⟩ rfl [4, 0] rfl rfl (Nat.le_of_ble_eq_true rfl) dX1_layFlows_84 hF (fun M8 r9 hF => ?_)
      obtain ⟨v10, e9, hF⟩ := bnd_e hF
      refine r_iinc (pc := 87) (w := v10) (k := 3) (L1 := [(3, .int v10), (0, .ref x0), (1, .int x1), (2, .ref x2)]) dX1_layFlows_87 rfl (by rw [e9]; rfl) (by decide) rfl ?_
      clear e9
      refine r_goto (pc := 90) (tgt := 57) dX1_layFlows_90 rfl ?_
      exact T.sub (ih M8 x0 x1 x2 v10 hF) [3, 4] [1, 2, 3, 0] rfl rfl
set_option maxHeartbeats 4000000 in
theorem w_X1_layFlows_p93 {X : Option Cx} {G : EG} {res : Mem × Unit} {k2 : Mem → Nat → Int32 → Option (Mem × Unit)} (hk2 : ∀ (M : Mem) (x0 : Nat) (x1 : Int32), k2 M x0 x1 = some res → T X (RV G res) P_X1_layFlows M [(x0, 3)] [(0, .ref x0), (1, .int x1)] [] 2) : ∀ (M : Mem) (x0 : Nat) (x1 : Int32), F_X1_layFlows_p93 k2 M x0 x1 = some res → T X (RV G res) P_X1_layFlows M [(x0, 3)] [(0, .ref x0), (1, .int x1)] [] 93 := by
  intro M x0 x1 hF
  unfold F_X1_layFlows_p93 at hF
  obtain ⟨v1, e9, hF⟩ := bnd_e hF
  refine r_iinc (pc := 93) (w := v1) (k := 1) (L1 := [(1, .int v1), (0, .ref x0)]) dX1_layFlows_93 rfl (by rw [e9]; rfl) (by decide) rfl ?_
  clear e9
  refine r_goto (pc := 96) (tgt := 2) dX1_layFlows_96 rfl ?_
  exact T.sub (hk2 M x0 v1 hF) [0] [1, 0] rfl rfl
set_option maxHeartbeats 4000000 in
theorem w_X1_layFlows_p2 {X : Option Cx} {G : EG} {res : Mem × Unit} {k99 : Mem → Option (Mem × Unit)} (hk99 : ∀ (M : Mem), k99 M = some res → T X (RV G res) P_X1_layFlows M [] [] [] 99) : ∀ (n : Nat) (M : Mem) (x0 : Nat) (x1 : Int32), F_X1_layFlows_p2 k99 n M x0 x1 = some res → T X (RV G res) P_X1_layFlows M [(x0, 3)] [(0, .ref x0), (1, .int x1)] [] 2 := by
  intro n
  induction n with
  | zero =>
    intro M x0 x1 hF
    cases hF
  | succ n ih =>
    intro M x0 x1 hF
    unfold F_X1_layFlows_p2 at hF
    refine r_iload_n (pc := 2) 1 dX1_layFlows_2 rfl rfl ?_
    refine r_aload_n (pc := 3) 0 dX1_layFlows_3 rfl rfl ?_
    refine gf_X1_12 (pc := 4) (j := 0) rfl dX1_layFlows_4 ?_
    refine r_lr (by decide) hF (fun b1 hF => ?_)
    refine r_callV_I (pc := 7) (Py := P_Jx4a65c_size_8abf5) (n := 0) (As := []) (fun q e => k_Jx4a65c_size_8abf5 G _ b1 q e) (c := 0) (Tb := TJx4a65c) (N := 3) rfl (by decide) (j0 := 0) rfl tw_375 tw_344 tw_345 tw_64 tw_346 hd_Jx4a65c_size_8abf5 ⟨Nat.le_of_ble_eq_true rfl, Nat.le_of_ble_eq_true rfl⟩ rfl [0] rfl rfl (Nat.le_of_ble_eq_true rfl) dX1_layFlows_7 hF (fun M2 r3 hF => ?_)
    refine r_icmp_ge (pc := 10) (tgt := 99) dX1_layFlows_10 rfl hF (fun hF => ?_) (fun hF => ?_)
    · exact T.sub (hk99 M2 hF) [] [] rfl rfl
    · refine r_aload_n (pc := 13) 0 dX1_layFlows_13 rfl rfl ?_
      refine gf_X1_12 (pc := 14) (j := 1) rfl dX1_layFlows_14 ?_
      refine r_lr (by decide) hF (fun b4 hF => ?_)
      refine r_iload_n (pc := 17) 1 dX1_layFlows_17 rfl rfl ?_
      refine r_callV_R (pc := 18) (Py := P_Jx4a65c_get_915e3) (n := 1) (As := [.int x1]) (fun q e => k_Jx4a65c_get_915e3 G _ b4 x1 q e) (c := 0) (Tb := TJx4a65c) (N := 3) rfl (by decide) (j0 := 0) rfl tw_376 tw_348 tw_349 tw_64 tw_350 hd_Jx4a65c_get_915e3 ⟨Nat.le_of_ble_eq_true rfl, Nat.le_of_ble_eq_true rfl⟩ rfl [0] rfl rfl (Nat.le_of_ble_eq_true rfl) dX1_layFlows_18 hF (fun M5 r6 hF => ?_)
      refine r_lr (by decide) hF (fun b7 hF => ?_)
      refine r_cast (pc := 21) (c := 1) (Tb := TX0) (N := 11) rfl (by decide) (j := 0) rfl tw_377 dX1_layFlows_21 ?_
      refine r_astore_n (pc := 24) (L1 := [(2, .ref b7), (0, .ref x0), (1, .int x1)]) dX1_layFlows_24 rfl (by decide) rfl ?_
      refine r_aload_n (pc := 25) 1 dX1_layFlows_25 rfl rfl ?_
      refine gf_X1_18 (pc := 26) (j := 3) rfl dX1_layFlows_26 ?_
      refine r_lr (by decide) hF (fun b8 hF => ?_)
      refine r_bipush (pc := 29) (w := 7) dX1_layFlows_29 (by decide) ?_
      refine r_dup2 (pc := 31) dX1_layFlows_31 rfl rfl ?_
      refine r_lald (pc := 32) (j := 0) rfl dX1_layFlows_32 hF (fun hF => ?_)
      refine r_aload_n (pc := 33) 0 dX1_layFlows_33 rfl rfl ?_
      refine r_callV_J (pc := 34) (Py := P_X0_leadOut) (n := 0) (As := []) (fun q e => k_X0_leadOut G _ b7 q e) (c := 1) (Tb := TX0) (N := 11) rfl (by decide) (j0 := 1) rfl tw_378 tw_379 tw_380 tw_74 tw_381 hd_X0_leadOut ⟨Nat.le_of_ble_eq_true rfl, Nat.le_of_ble_eq_true rfl⟩ rfl [1] rfl rfl (Nat.le_of_ble_eq_true rfl) dX1_layFlows_34 hF (fun M9 r10 hF => ?_)
      refine r_ladd (pc := 37) dX1_layFlows_37 ?_
      refine r_last (pc := 38) (j := 0) rfl dX1_layFlows_38 hF (fun M11 hF => ?_)
      refine r_aload_n (pc := 39) 1 dX1_layFlows_39 rfl rfl ?_
      refine gf_X1_18 (pc := 40) (j := 4) rfl dX1_layFlows_40 ?_
      refine r_lr (by decide) hF (fun b12 hF => ?_)
      refine r_bipush (pc := 43) (w := 8) dX1_layFlows_43 (by decide) ?_
      refine r_dup2 (pc := 45) dX1_layFlows_45 rfl rfl ?_
      refine r_lald (pc := 46) (j := 0) rfl dX1_layFlows_46 hF (fun hF => ?_)
      refine r_aload_n (pc := 47) 0 dX1_layFlows_47 rfl rfl ?_
      refine r_callV_J (pc := 48) (Py := P_X0_wash) (n := 0) (As := []) (fun q e => k_X0_wash G _ b7 q e) (c := 1) (Tb := TX0) (N := 11) rfl (by decide) (j0 := 2) rfl tw_387 tw_388 tw_389 tw_74 tw_390 hd_X0_wash ⟨Nat.le_of_ble_eq_true rfl, Nat.le_of_ble_eq_true rfl⟩ rfl [2] rfl rfl (Nat.le_of_ble_eq_true rfl) dX1_layFlows_48 hF (fun M13 r14 hF => ?_)
      refine r_ladd (pc := 51) dX1_layFlows_51 ?_
      refine r_last (pc := 52) (j := 0) rfl dX1_layFlows_52 hF (fun M15 hF => ?_)
      refine r_iload_n (pc := 53) 2 dX1_layFlows_53 rfl rfl ?_
      refine r_iconst (pc := 54) (w := 1) dX1_layFlows_54 (by decide) ?_
      refine r_iadd (pc := 55) dX1_layFlows_55 ?_
      refine r_gI (pc := 56) hF (fun v16 hF => ?_)
      refine r_istore_n (pc := 56) (L1 := [(3, .int v16), (2, .ref b7), (0, .ref x0), (1, .int x1)]) dX1_layFlows_56 rfl (by decide) rfl ?_
      exact T.sub ((w_X1_layFlows_p57 (w_X1_layFlows_p93 ih) FU) M15 x0 x1 b7 v16 hF) [5, 2] [2, 3, 1, 0] rfl rfl
set_option maxHeartbeats 4000000 in
theorem w_X1_layFlows_p99 {X : Option Cx} {G : EG} {res : Mem × Unit} : ∀ (M : Mem), F_X1_layFlows_p99 M = some res → T X (RV G res) P_X1_layFlows M [] [] [] 99 := by
  intro M hF
  unfold F_X1_layFlows_p99 at hF
  exact r_vret (pc := 99) dX1_layFlows_99 hF
set_option maxHeartbeats 4000000 in
theorem w_X1_layFlows {X : Option Cx} {G : EG} {res : Mem × Unit} (M : Mem) (a0 : Nat) (hF : F_X1_layFlows M a0 = some res) : T X (RV G res) P_X1_layFlows M [(a0, 3)] [(0, .ref a0)] [] 0 := by
  unfold F_X1_layFlows at hF
  refine r_iconst (pc := 0) (w := 0) dX1_layFlows_0 (by decide) ?_
  refine r_istore_n (pc := 1) (L1 := [(1, .int ((0 : Int32))), (0, .ref a0)]) dX1_layFlows_1 rfl (by decide) rfl ?_
  exact T.sub ((w_X1_layFlows_p2 (w_X1_layFlows_p99) FU) M a0 (0 : Int32) hF) [0] [1, 0] rfl rfl
theorem k_X1_layFlows (G : EG) (M : Mem) (a0 : Nat) (q : Mem × Unit) (h : F_X1_layFlows M a0 = some q) : Kt yX1_layFlows P_X1_layFlows M [(a0, 3)] [.ref a0] (RV G q) := Kt.of (by decide +kernel) rfl (Nat.le_of_ble_eq_true rfl) rfl (fun X hz => w_X1_layFlows M a0 h)
set_option maxHeartbeats 4000000 in
theorem w_X6_inForce_p68 {X : Option Cx} {G : EG} {res : Mem × Option Nat} {k5 : Mem → Nat → Int32 → Int32 → Option Nat → Int32 → Option (Mem × Option Nat)} (hk5 : ∀ (M : Mem) (x0 : Nat) (x1 : Int32) (x2 : Int32) (x3 : Option Nat) (x4 : Int32), k5 M x0 x1 x2 x3 x4 = some res → T X (RR G res) P_X6_inForce M [(x0, 8)] [(0, .ref x0), (1, .int x1), (2, .int x2), (3, va_rf x3), (4, .int x4)] [] 5) : ∀ (M : Mem) (x0 : Nat) (x1 : Int32) (x2 : Int32) (x3 : Option Nat) (x4 : Int32), F_X6_inForce_p68 k5 M x0 x1 x2 x3 x4 = some res → T X (RR G res) P_X6_inForce M [(x0, 8)] [(0, .ref x0), (1, .int x1), (2, .int x2), (3, va_rf x3), (4, .int x4)] [] 68 := by
  intro M x0 x1 x2 x3 x4 hF
  unfold F_X6_inForce_p68 at hF
  obtain ⟨v1, e9, hF⟩ := bnd_e hF
  refine r_iinc (pc := 68) (w := v1) (k := 4) (L1 := [(4, .int v1), (0, .ref x0), (1, .int x1), (2, .int x2), (3, va_rf x3)]) dX6_inForce_68 rfl (by rw [e9]; rfl) (by decide) (by cases x3 <;> rfl) ?_
  clear e9
  refine r_goto (pc := 71) (tgt := 5) dX6_inForce_71 rfl ?_
  exact T.sub (hk5 M x0 x1 x2 x3 v1 hF) [0] [1, 2, 3, 4, 0] rfl rfl
set_option maxHeartbeats 4000000 in
theorem w_X6_inForce_p65 {X : Option Cx} {G : EG} {res : Mem × Option Nat} {k5 : Mem → Nat → Int32 → Int32 → Option Nat → Int32 → Option (Mem × Option Nat)} (hk5 : ∀ (M : Mem) (x0 : Nat) (x1 : Int32) (x2 : Int32) (x3 : Option Nat) (x4 : Int32), k5 M x0 x1 x2 x3 x4 = some res → T X (RR G res) P_X6_inForce M [(x0, 8)] [(0, .ref x0), (1, .int x1), (2, .int x2), (3, va_rf x3), (4, .int x4)] [] 5) : ∀ (M : Mem) (x0 : Nat) (x1 : Int32) (x2 : Int32) (x4 : Int32) (x5 : Nat), F_X6_inForce_p65 k5 M x0 x1 x2 x4 x5 = some res → T X (RR G res) P_X6_inForce M [(x0, 8), (x5, 7)] [(0, .ref x0), (1, .int x1), (2, .int x2), (4, .int x4), (5, .ref x5)] [] 65 := by
  intro M x0 x1 x2 x4 x5 hF
  unfold F_X6_inForce_p65 at hF
  refine r_aload (pc := 65) 4 dX6_inForce_65 rfl ?_
  refine r_astore_n (pc := 67) (L1 := [(3, .ref x5), (0, .ref x0), (1, .int x1), (2, .int x2), (4, .int x4), (5, .ref x5)]) dX6_inForce_67 rfl (by decide) rfl ?_
  exact T.sub ((w_X6_inForce_p68 hk5) M x0 x1 x2 (some x5) x4 hF) [0] [1, 2, 3, 0, 4] rfl rfl
set_option maxHeartbeats 4000000 in
theorem w_X6_inForce_p5 {X : Option Cx} {G : EG} {res : Mem × Option Nat} {k74 : Mem → Option Nat → Option (Mem × Option Nat)} (hk74 : ∀ (M : Mem) (x3 : Option Nat), k74 M x3 = some res → T X (RR G res) P_X6_inForce M [] [(3, va_rf x3)] [] 74) : ∀ (n : Nat) (M : Mem) (x0 : Nat) (x1 : Int32) (x2 : Int32) (x3 : Option Nat) (x4 : Int32), F_X6_inForce_p5 k74 n M x0 x1 x2 x3 x4 = some res → T X (RR G res) P_X6_inForce M [(x0, 8)] [(0, .ref x0), (1, .int x1), (2, .int x2), (3, va_rf x3), (4, .int x4)] [] 5 := by
  intro n
  induction n with
  | zero =>
    intro M x0 x1 x2 x3 x4 hF
    cases hF
  | succ n ih =>
    intro M x0 x1 x2 x3 x4 hF
    unfold F_X6_inForce_p5 at hF
    refine r_iload (pc := 5) 4 dX6_inForce_5 rfl ?_
    refine r_aload_n (pc := 7) 0 dX6_inForce_7 rfl rfl ?_
    refine gf_X6_12 (pc := 8) (j := 0) rfl dX6_inForce_8 ?_
    refine r_lr (by decide) hF (fun b1 hF => ?_)
    refine r_callV_I (pc := 11) (Py := P_Jx4a65c_size_8abf5) (n := 0) (As := []) (fun q e => k_Jx4a65c_size_8abf5 G _ b1 q e) (c := 0) (Tb := TJx4a65c) (N := 3) rfl (by decide) (j0 := 0) rfl tw_410 tw_344 tw_345 tw_64 tw_346 hd_Jx4a65c_size_8abf5 ⟨Nat.le_of_ble_eq_true rfl, Nat.le_of_ble_eq_true rfl⟩ rfl [0] rfl rfl (Nat.le_of_ble_eq_true rfl) dX6_inForce_11 hF (fun M2 r3 hF => ?_)
    refine r_icmp_ge (pc := 14) (tgt := 74) dX6_inForce_14 rfl hF (fun hF => ?_) (fun hF => ?_)
    · exact T.sub (hk74 M2 x3 hF) [] [3] rfl rfl
    · refine r_aload_n (pc := 17) 0 dX6_inForce_17 rfl rfl ?_
      refine gf_X6_12 (pc := 18) (j := 1) rfl dX6_inForce_18 ?_
      refine r_lr (by decide) hF (fun b4 hF => ?_)
      refine r_iload (pc := 21) 4 dX6_inForce_21 rfl ?_
      refine r_callV_R (pc := 23) (Py := P_Jx4a65c_get_915e3) (n := 1) (As := [.int x4]) (fun q e => k_Jx4a65c_get_915e3 G _ b4 x4 q e) (c := 0) (Tb := TJx4a65c) (N := 3) rfl (by decide) (j0 := 0) rfl tw_411 tw_348 tw_349 tw_64 tw_350 hd_Jx4a65c_get_915e3 ⟨Nat.le_of_ble_eq_true rfl, Nat.le_of_ble_eq_true rfl⟩ rfl [0] rfl rfl (Nat.le_of_ble_eq_true rfl) dX6_inForce_23 hF (fun M5 r6 hF => ?_)
      refine r_lr (by decide) hF (fun b7 hF => ?_)
      refine r_cast (pc := 26) (c := 6) (Tb := TX5) (N := 4) rfl (by decide) (j := 0) rfl tw_412 dX6_inForce_26 ?_
      refine r_astore (pc := 29) (L1 := [(5, .ref b7), (0, .ref x0), (1, .int x1), (2, .int x2), (3, va_rf x3), (4, .int x4)]) dX6_inForce_29 (by decide) rfl ?_
      refine r_aload (pc := 31) 0 dX6_inForce_31 rfl ?_
      refine gf_X6_35 (pc := 33) (j := 0) rfl dX6_inForce_33 ?_
      refine r_iload_n (pc := 36) 2 dX6_inForce_36 rfl rfl ?_
      refine r_icmp_ne (pc := 37) (tgt := 68) dX6_inForce_37 rfl hF (fun hF => ?_) (fun hF => ?_)
      · exact T.sub ((w_X6_inForce_p68 ih) M5 x0 x1 x2 x3 x4 hF) [3] [1, 2, 3, 4, 5] rfl rfl
      · refine r_aload (pc := 40) 0 dX6_inForce_40 rfl ?_
        refine gf_X6_39 (pc := 42) (j := 0) rfl dX6_inForce_42 ?_
        refine r_iload_n (pc := 45) 3 dX6_inForce_45 rfl rfl ?_
        refine r_icmp_gt (pc := 46) (tgt := 68) dX6_inForce_46 rfl hF (fun hF => ?_) (fun hF => ?_)
        · exact T.sub ((w_X6_inForce_p68 ih) M5 x0 x1 x2 x3 x4 hF) [3] [1, 2, 3, 4, 5] rfl rfl
        · refine r_aloado_n (pc := 49) 4 dX6_inForce_49 rfl rfl ?_
          refine r_ifnull (pc := 50) (tgt := 65) dX6_inForce_50 rfl hF (fun e9 h0 => ?_) (fun b8 e9 h0 => ?_)
          · clear hF
            subst e9
            have hF := h0
            clear h0
            exact T.sub ((w_X6_inForce_p65 ih) M5 x0 x1 x2 x4 b7 hF) [3, 0] [1, 2, 3, 5, 0] rfl rfl
          · clear hF
            subst e9
            have hF := h0
            clear h0
            refine r_aload (pc := 53) 0 dX6_inForce_53 rfl ?_
            refine gf_X6_39 (pc := 55) (j := 0) rfl dX6_inForce_55 ?_
            refine r_aload_n (pc := 58) 4 dX6_inForce_58 rfl rfl ?_
            refine r_kind (by decide) hF (fun hF => ?_)
            refine gf_X6_39 (pc := 59) (j := 0) rfl dX6_inForce_59 ?_
            refine r_icmp_lt (pc := 62) (tgt := 68) dX6_inForce_62 rfl hF (fun hF => ?_) (fun hF => ?_)
            · exact T.sub ((w_X6_inForce_p68 ih) M5 x0 x1 x2 (some b8) x4 hF) [4] [1, 2, 3, 4, 5] rfl rfl
            · exact T.sub ((w_X6_inForce_p65 ih) M5 x0 x1 x2 x4 b7 hF) [4, 1] [1, 2, 3, 5, 0] rfl rfl
set_option maxHeartbeats 4000000 in
theorem w_X6_inForce_p74 {X : Option Cx} {G : EG} {res : Mem × Option Nat} : ∀ (M : Mem) (x3 : Option Nat), F_X6_inForce_p74 M x3 = some res → T X (RR G res) P_X6_inForce M [] [(3, va_rf x3)] [] 74 := by
  intro M x3 hF
  unfold F_X6_inForce_p74 at hF
  refine r_aloado_n (pc := 74) 0 dX6_inForce_74 rfl rfl ?_
  exact r_aret (pc := 75) (w := x3) (Or.inl ⟨_, rfl⟩) dX6_inForce_75 hF
set_option maxHeartbeats 4000000 in
theorem w_X6_inForce {X : Option Cx} {G : EG} {res : Mem × Option Nat} (M : Mem) (a0 : Nat) (a1 : Int32) (a2 : Int32) (hF : F_X6_inForce M a0 a1 a2 = some res) : T X (RR G res) P_X6_inForce M [(a0, 8)] [(0, .ref a0), (1, .int a1), (2, .int a2)] [] 0 := by
  unfold F_X6_inForce at hF
  refine r_null (pc := 0) dX6_inForce_0 ?_
  refine r_astoreo_n (pc := 1) (r := none) (L1 := [(3, va_rf none), (0, .ref a0), (1, .int a1), (2, .int a2)]) dX6_inForce_1 rfl (by decide) rfl ?_
  refine r_iconst (pc := 2) (w := 0) dX6_inForce_2 (by decide) ?_
  refine r_istore (pc := 3) (L1 := [(4, .int ((0 : Int32))), (3, va_rf none), (0, .ref a0), (1, .int a1), (2, .int a2)]) dX6_inForce_3 (by decide) rfl ?_
  exact T.sub ((w_X6_inForce_p5 (w_X6_inForce_p74) FU) M a0 a1 a2 none (0 : Int32) hF) [0] [2, 3, 4, 1, 0] rfl rfl
theorem k_X6_inForce (G : EG) (M : Mem) (a0 : Nat) (a1 : Int32) (a2 : Int32) (q : Mem × Option Nat) (h : F_X6_inForce M a0 a1 a2 = some q) : Kt yX6_inForce P_X6_inForce M [(a0, 8)] [.ref a0, .int a1, .int a2] (RR G q) := Kt.of (by decide +kernel) rfl (Nat.le_of_ble_eq_true rfl) rfl (fun X hz => w_X6_inForce M a0 a1 a2 h)
