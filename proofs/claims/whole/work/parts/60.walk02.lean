set_option maxHeartbeats 4000000 in
theorem w_X11_firstOf_p9 {X : Option Cx} {G : EG} {res : Mem × Int32} : ∀ (M : Mem) (y0 : Int32), F_X11_firstOf_p9 M y0 = some res → T X (RI G res) P_X11_firstOf M [] [] [.int y0] 9 := by
  intro M y0 hF
  unfold F_X11_firstOf_p9 at hF
  exact r_iret (pc := 9) dX11_firstOf_9 hF
set_option maxHeartbeats 4000000 in
theorem w_X11_firstOf {X : Option Cx} {G : EG} {res : Mem × Int32} (M : Mem) (a0 : Int32) (a1 : Int32) (hF : F_X11_firstOf M a0 a1 = some res) : T X (RI G res) P_X11_firstOf M [] [(0, .int a0), (1, .int a1)] [] 0 := by
  unfold F_X11_firstOf at hF
  refine r_iload_n (pc := 0) 0 dX11_firstOf_0 rfl rfl ?_
  refine r_if_eq (pc := 1) (tgt := 8) dX11_firstOf_1 rfl hF (fun hF => ?_) (fun hF => ?_)
  · refine r_iload_n (pc := 8) 1 dX11_firstOf_8 rfl rfl ?_
    exact T.sub ((w_X11_firstOf_p9) M a1 hF) [] [] rfl rfl
  · refine r_iload_n (pc := 4) 0 dX11_firstOf_4 rfl rfl ?_
    refine r_goto (pc := 5) (tgt := 9) dX11_firstOf_5 rfl ?_
    exact T.sub ((w_X11_firstOf_p9) M a0 hF) [] [] rfl rfl
theorem k_X11_firstOf (G : EG) (M : Mem) (a0 : Int32) (a1 : Int32) (q : Mem × Int32) (h : F_X11_firstOf M a0 a1 = some q) : Kt yX11_firstOf P_X11_firstOf M [] [.int a0, .int a1] (RI G q) := Kt.of (by decide +kernel) rfl (Nat.le_of_ble_eq_true rfl) rfl (fun X hz => w_X11_firstOf M a0 a1 h)
set_option maxHeartbeats 4000000 in
theorem w_X11_replace_p10 {X : Option Cx} {G : EG} {res : Mem × Int32} : ∀ (M : Mem), F_X11_replace_p10 M = some res → T X (RI G res) P_X11_replace M [] [] [] 10 := by
  intro M hF
  unfold F_X11_replace_p10 at hF
  refine r_iconst (pc := 10) (w := 0) dX11_replace_10 (by decide) ?_
  exact r_iret (pc := 11) dX11_replace_11 hF
set_option maxHeartbeats 4000000 in
theorem w_X11_replace {X : Option Cx} {G : EG} {res : Mem × Int32} (M : Mem) (a0 : Nat) (a1 : Int32) (a2 : Int32) (hF : F_X11_replace M a0 a1 a2 = some res) : T X (RI G res) P_X11_replace M [(a0, 20)] [(0, .ref a0), (1, .int a1), (2, .int a2)] [] 0 := by
  unfold F_X11_replace at hF
  refine r_iload_n (pc := 0) 1 dX11_replace_0 rfl rfl ?_
  refine r_if_lt (pc := 1) (tgt := 10) dX11_replace_1 rfl hF (fun hF => ?_) (fun hF => ?_)
  · exact T.sub ((w_X11_replace_p10) M hF) [] [] rfl rfl
  · refine r_iload_n (pc := 4) 1 dX11_replace_4 rfl rfl ?_
    refine r_aload_n (pc := 5) 0 dX11_replace_5 rfl rfl ?_
    refine r_alen (pc := 6) (j := 0) rfl (by decide) dX11_replace_6 ?_
    refine r_icmp_lt (pc := 7) (tgt := 12) dX11_replace_7 rfl hF (fun hF => ?_) (fun hF => ?_)
    · refine r_aload_n (pc := 12) 0 dX11_replace_12 rfl rfl ?_
      refine r_iload_n (pc := 13) 1 dX11_replace_13 rfl rfl ?_
      refine r_iald (pc := 14) (j := 0) rfl dX11_replace_14 hF (fun hF => ?_)
      refine r_gI (pc := 15) hF (fun v1 hF => ?_)
      refine r_istore_n (pc := 15) (L1 := [(3, .int v1), (0, .ref a0), (1, .int a1), (2, .int a2)]) dX11_replace_15 rfl (by decide) rfl ?_
      refine r_aload_n (pc := 16) 1 dX11_replace_16 rfl rfl ?_
      refine r_iload_n (pc := 17) 2 dX11_replace_17 rfl rfl ?_
      refine r_iload_n (pc := 18) 3 dX11_replace_18 rfl rfl ?_
      refine r_iast (pc := 19) (j := 0) rfl dX11_replace_19 hF (fun M2 hF => ?_)
      refine r_iload_n (pc := 20) 0 dX11_replace_20 rfl rfl ?_
      exact r_iret (pc := 21) dX11_replace_21 hF
    · exact T.sub ((w_X11_replace_p10) M hF) [] [] rfl rfl
theorem k_X11_replace (G : EG) (M : Mem) (a0 : Nat) (a1 : Int32) (a2 : Int32) (q : Mem × Int32) (h : F_X11_replace M a0 a1 a2 = some q) : Kt yX11_replace P_X11_replace M [(a0, 20)] [.ref a0, .int a1, .int a2] (RI G q) := Kt.of (by decide +kernel) rfl (Nat.le_of_ble_eq_true rfl) rfl (fun X hz => w_X11_replace M a0 a1 a2 h)
set_option maxHeartbeats 4000000 in
theorem w_X11_cold {X : Option Cx} {G : EG} {res : Mem × Int32} (M : Mem) (a0 : Nat) (a1 : Int32) (a2 : Int32) (hF : F_X11_cold M a0 a1 a2 = some res) : T X (RI G res) P_X11_cold M [(a0, 13)] [(0, .ref a0), (1, .int a1), (2, .int a2)] [] 0 := by
  unfold F_X11_cold at hF
  refine r_iload_n (pc := 0) 1 dX11_cold_0 rfl rfl ?_
  refine r_iconst (pc := 1) (w := 0) dX11_cold_1 (by decide) ?_
  refine r_bipush (pc := 2) (w := 11) dX11_cold_2 (by decide) ?_
  refine r_callS_I (pc := 4) (Py := P_X11_beyond) (n := 3) (As := [.int a1, .int ((0 : Int32)), .int ((11 : Int32))]) (fun q e => k_X11_beyond G _ a1 (0 : Int32) (11 : Int32) q e) tw_319 tw_320 tw_60 tw_321 hd_X11_beyond ⟨Nat.le_of_ble_eq_true rfl, Nat.le_of_ble_eq_true rfl⟩ rfl [] rfl rfl (Nat.le_of_ble_eq_true rfl) dX11_cold_4 hF (fun M1 r2 hF => ?_)
  refine r_iload_n (pc := 7) 2 dX11_cold_7 rfl rfl ?_
  refine r_bipush (pc := 8) (w := -40) dX11_cold_8 (by decide) ?_
  refine r_bipush (pc := 10) (w := 40) dX11_cold_10 (by decide) ?_
  refine r_callS_I (pc := 12) (Py := P_X11_beyond) (n := 3) (As := [.int a2, .int ((-40 : Int32)), .int ((40 : Int32))]) (fun q e => k_X11_beyond G _ a2 (-40 : Int32) (40 : Int32) q e) tw_319 tw_320 tw_60 tw_321 hd_X11_beyond ⟨Nat.le_of_ble_eq_true rfl, Nat.le_of_ble_eq_true rfl⟩ rfl [] rfl rfl (Nat.le_of_ble_eq_true rfl) dX11_cold_12 hF (fun M3 r4 hF => ?_)
  refine r_callS_I (pc := 15) (Py := P_X11_firstOf) (n := 2) (As := [.int r2, .int r4]) (fun q e => k_X11_firstOf G _ r2 r4 q e) tw_700 tw_701 tw_60 tw_702 hd_X11_firstOf ⟨Nat.le_of_ble_eq_true rfl, Nat.le_of_ble_eq_true rfl⟩ rfl [] rfl rfl (Nat.le_of_ble_eq_true rfl) dX11_cold_15 hF (fun M5 r6 hF => ?_)
  refine r_istore_n (pc := 18) (L1 := [(3, .int r6), (0, .ref a0), (1, .int a1), (2, .int a2)]) dX11_cold_18 rfl (by decide) rfl ?_
  refine r_iload_n (pc := 19) 0 dX11_cold_19 rfl rfl ?_
  refine r_if_eq (pc := 20) (tgt := 32) dX11_cold_20 rfl hF (fun hF => ?_) (fun hF => ?_)
  · refine r_aload_n (pc := 32) 1 dX11_cold_32 rfl rfl ?_
    refine gf_X11_10 (pc := 33) (j := 0) rfl dX11_cold_33 ?_
    refine r_lr (by decide) hF (fun b7 hF => ?_)
    refine gf_X11_160 (pc := 36) (j := 0) rfl dX11_cold_36 ?_
    refine r_lr (by decide) hF (fun b8 hF => ?_)
    refine r_iload_n (pc := 39) 2 dX11_cold_39 rfl rfl ?_
    refine r_iload_n (pc := 40) 3 dX11_cold_40 rfl rfl ?_
    refine r_callS_I (pc := 41) (Py := P_X11_replace) (n := 3) (As := [.ref b8, .int a1, .int a2]) (fun q e => k_X11_replace G _ b8 a1 a2 q e) tw_704 tw_705 tw_60 tw_706 hd_X11_replace ⟨Nat.le_of_ble_eq_true rfl, Nat.le_of_ble_eq_true rfl⟩ rfl [0] rfl rfl (Nat.le_of_ble_eq_true rfl) dX11_cold_41 hF (fun M9 r10 hF => ?_)
    exact r_iret (pc := 44) dX11_cold_44 hF
  · refine r_ldc (pc := 23) (w := 1000000000) tw_703 dX11_cold_23 ?_
    refine r_aload_n (pc := 25) 1 dX11_cold_25 rfl rfl ?_
    refine r_iload_n (pc := 26) 0 dX11_cold_26 rfl rfl ?_
    refine r_callV_I (pc := 27) (Py := P_X11_refuse) (n := 1) (As := [.int r6]) (fun q e => k_X11_refuse G _ a0 r6 q e) (c := 12) (Tb := TX11) (N := 11) rfl (by decide) (j0 := 0) rfl tw_322 tw_324 tw_0 tw_60 tw_325 hd_X11_refuse ⟨Nat.le_of_ble_eq_true rfl, Nat.le_of_ble_eq_true rfl⟩ rfl [0] rfl rfl (Nat.le_of_ble_eq_true rfl) dX11_cold_27 hF (fun M11 r12 hF => ?_)
    refine r_isub (pc := 30) dX11_cold_30 ?_
    exact r_iret (pc := 31) dX11_cold_31 hF
theorem k_X11_cold (G : EG) (M : Mem) (a0 : Nat) (a1 : Int32) (a2 : Int32) (q : Mem × Int32) (h : F_X11_cold M a0 a1 a2 = some q) : Kt yX11_cold P_X11_cold M [(a0, 13)] [.ref a0, .int a1, .int a2] (RI G q) := Kt.of (by decide +kernel) rfl (Nat.le_of_ble_eq_true rfl) rfl (fun X hz => w_X11_cold M a0 a1 a2 h)
set_option maxHeartbeats 4000000 in
theorem w_X1_openOnes_p38 {X : Option Cx} {G : EG} {res : Mem × Int32} {k4 : Mem → Nat → Int32 → Int32 → Option (Mem × Int32)} (hk4 : ∀ (M : Mem) (x0 : Nat) (x1 : Int32) (x2 : Int32), k4 M x0 x1 x2 = some res → T X (RI G res) P_X1_openOnes M [(x0, 3)] [(0, .ref x0), (1, .int x1), (2, .int x2)] [] 4) : ∀ (M : Mem) (x0 : Nat) (x2 : Int32) (y0 : Int32) (y1 : Int32), F_X1_openOnes_p38 k4 M x0 x2 y0 y1 = some res → T X (RI G res) P_X1_openOnes M [(x0, 3)] [(0, .ref x0), (2, .int x2)] [.int y1, .int y0] 38 := by
  intro M x0 x2 y0 y1 hF
  unfold F_X1_openOnes_p38 at hF
  refine r_iadd (pc := 38) dX1_openOnes_38 ?_
  refine r_gI (pc := 39) hF (fun v1 hF => ?_)
  refine r_istore_n (pc := 39) (L1 := [(1, .int v1), (0, .ref x0), (2, .int x2)]) dX1_openOnes_39 rfl (by decide) rfl ?_
  obtain ⟨v2, e9, hF⟩ := bnd_e hF
  refine r_iinc (pc := 40) (w := v2) (k := 2) (L1 := [(2, .int v2), (1, .int v1), (0, .ref x0)]) dX1_openOnes_40 rfl (by rw [e9]; rfl) (by decide) rfl ?_
  clear e9
  refine r_goto (pc := 43) (tgt := 4) dX1_openOnes_43 rfl ?_
  exact T.sub (hk4 M x0 v1 v2 hF) [0] [2, 1, 0] rfl rfl
set_option maxHeartbeats 4000000 in
theorem w_X1_openOnes_p4 {X : Option Cx} {G : EG} {res : Mem × Int32} {k46 : Mem → Int32 → Option (Mem × Int32)} (hk46 : ∀ (M : Mem) (x1 : Int32), k46 M x1 = some res → T X (RI G res) P_X1_openOnes M [] [(1, .int x1)] [] 46) : ∀ (n : Nat) (M : Mem) (x0 : Nat) (x1 : Int32) (x2 : Int32), F_X1_openOnes_p4 k46 n M x0 x1 x2 = some res → T X (RI G res) P_X1_openOnes M [(x0, 3)] [(0, .ref x0), (1, .int x1), (2, .int x2)] [] 4 := by
  intro n
  induction n with
  | zero =>
    intro M x0 x1 x2 hF
    cases hF
  | succ n ih =>
    intro M x0 x1 x2 hF
    unfold F_X1_openOnes_p4 at hF
    refine r_iload_n (pc := 4) 2 dX1_openOnes_4 rfl rfl ?_
    refine r_aload_n (pc := 5) 0 dX1_openOnes_5 rfl rfl ?_
    refine gf_X1_12 (pc := 6) (j := 0) rfl dX1_openOnes_6 ?_
    refine r_lr (by decide) hF (fun b1 hF => ?_)
    refine r_callV_I (pc := 9) (Py := P_Jx4a65c_size_8abf5) (n := 0) (As := []) (fun q e => k_Jx4a65c_size_8abf5 G _ b1 q e) (c := 0) (Tb := TJx4a65c) (N := 3) rfl (by decide) (j0 := 0) rfl tw_375 tw_344 tw_345 tw_64 tw_346 hd_Jx4a65c_size_8abf5 ⟨Nat.le_of_ble_eq_true rfl, Nat.le_of_ble_eq_true rfl⟩ rfl [0] rfl rfl (Nat.le_of_ble_eq_true rfl) dX1_openOnes_9 hF (fun M2 r3 hF => ?_)
    refine r_icmp_ge (pc := 12) (tgt := 46) dX1_openOnes_12 rfl hF (fun hF => ?_) (fun hF => ?_)
    · exact T.sub (hk46 M2 x1 hF) [] [1] rfl rfl
    · refine r_iload_n (pc := 15) 1 dX1_openOnes_15 rfl rfl ?_
      refine r_aload_n (pc := 16) 0 dX1_openOnes_16 rfl rfl ?_
      refine gf_X1_12 (pc := 17) (j := 1) rfl dX1_openOnes_17 ?_
      refine r_lr (by decide) hF (fun b4 hF => ?_)
      refine r_iload_n (pc := 20) 2 dX1_openOnes_20 rfl rfl ?_
      refine r_callV_R (pc := 21) (Py := P_Jx4a65c_get_915e3) (n := 1) (As := [.int x2]) (fun q e => k_Jx4a65c_get_915e3 G _ b4 x2 q e) (c := 0) (Tb := TJx4a65c) (N := 3) rfl (by decide) (j0 := 0) rfl tw_376 tw_348 tw_349 tw_64 tw_350 hd_Jx4a65c_get_915e3 ⟨Nat.le_of_ble_eq_true rfl, Nat.le_of_ble_eq_true rfl⟩ rfl [0] rfl rfl (Nat.le_of_ble_eq_true rfl) dX1_openOnes_21 hF (fun M5 r6 hF => ?_)
      refine r_lr (by decide) hF (fun b7 hF => ?_)
      refine r_cast (pc := 24) (c := 1) (Tb := TX0) (N := 11) rfl (by decide) (j := 0) rfl tw_377 dX1_openOnes_24 ?_
      refine gf_X1_99 (pc := 27) (j := 0) rfl dX1_openOnes_27 ?_
      refine r_if_eq (pc := 30) (tgt := 37) dX1_openOnes_30 rfl hF (fun hF => ?_) (fun hF => ?_)
      · refine r_iconst (pc := 37) (w := 0) dX1_openOnes_37 (by decide) ?_
        exact T.sub ((w_X1_openOnes_p38 ih) M5 x0 x2 x1 (0 : Int32) hF) [3] [0, 2] rfl rfl
      · refine r_iconst (pc := 33) (w := 1) dX1_openOnes_33 (by decide) ?_
        refine r_goto (pc := 34) (tgt := 38) dX1_openOnes_34 rfl ?_
        exact T.sub ((w_X1_openOnes_p38 ih) M5 x0 x2 x1 (1 : Int32) hF) [3] [0, 2] rfl rfl
set_option maxHeartbeats 4000000 in
theorem w_X1_openOnes_p46 {X : Option Cx} {G : EG} {res : Mem × Int32} : ∀ (M : Mem) (x1 : Int32), F_X1_openOnes_p46 M x1 = some res → T X (RI G res) P_X1_openOnes M [] [(1, .int x1)] [] 46 := by
  intro M x1 hF
  unfold F_X1_openOnes_p46 at hF
  refine r_iload_n (pc := 46) 0 dX1_openOnes_46 rfl rfl ?_
  exact r_iret (pc := 47) dX1_openOnes_47 hF
set_option maxHeartbeats 4000000 in
theorem w_X1_openOnes {X : Option Cx} {G : EG} {res : Mem × Int32} (M : Mem) (a0 : Nat) (hF : F_X1_openOnes M a0 = some res) : T X (RI G res) P_X1_openOnes M [(a0, 3)] [(0, .ref a0)] [] 0 := by
  unfold F_X1_openOnes at hF
  refine r_iconst (pc := 0) (w := 0) dX1_openOnes_0 (by decide) ?_
  refine r_istore_n (pc := 1) (L1 := [(1, .int ((0 : Int32))), (0, .ref a0)]) dX1_openOnes_1 rfl (by decide) rfl ?_
  refine r_iconst (pc := 2) (w := 0) dX1_openOnes_2 (by decide) ?_
  refine r_istore_n (pc := 3) (L1 := [(2, .int ((0 : Int32))), (1, .int ((0 : Int32))), (0, .ref a0)]) dX1_openOnes_3 rfl (by decide) rfl ?_
  exact T.sub ((w_X1_openOnes_p4 (w_X1_openOnes_p46) FU) M a0 (0 : Int32) (0 : Int32) hF) [0] [2, 1, 0] rfl rfl
theorem k_X1_openOnes (G : EG) (M : Mem) (a0 : Nat) (q : Mem × Int32) (h : F_X1_openOnes M a0 = some q) : Kt yX1_openOnes P_X1_openOnes M [(a0, 3)] [.ref a0] (RI G q) := Kt.of (by decide +kernel) rfl (Nat.le_of_ble_eq_true rfl) rfl (fun X hz => w_X1_openOnes M a0 h)
set_option maxHeartbeats 4000000 in
theorem w_X11_count_p175 {X : Option Cx} {G : EG} {res : Mem × Int32} : ∀ (M : Mem) (y0 : Int32), F_X11_count_p175 M y0 = some res → T X (RI G res) P_X11_count M [] [] [.int y0] 175 := by
  intro M y0 hF
  unfold F_X11_count_p175 at hF
  exact r_iret (pc := 175) dX11_count_175 hF
set_option maxHeartbeats 4000000 in
theorem w_X11_count_p173 {X : Option Cx} {G : EG} {res : Mem × Int32} : ∀ (M : Mem), F_X11_count_p173 M = some res → T X (RI G res) P_X11_count M [] [] [] 173 := by
  intro M hF
  unfold F_X11_count_p173 at hF
  refine r_bipush (pc := 173) (w := -9) dX11_count_173 (by decide) ?_
  exact T.sub ((w_X11_count_p175) M (-9 : Int32) hF) [] [] rfl rfl
set_option maxHeartbeats 4000000 in
theorem w_X11_count {X : Option Cx} {G : EG} {res : Mem × Int32} (M : Mem) (a0 : Nat) (a1 : Int32) (hF : F_X11_count M a0 a1 = some res) : T X (RI G res) P_X11_count M [(a0, 13)] [(0, .ref a0), (1, .int a1)] [] 0 := by
  unfold F_X11_count at hF
  refine r_iload_n (pc := 0) 1 dX11_count_0 rfl rfl ?_
  rcases swi_e (hi := 8) (n := 9) rfl rfl hF with ⟨h9, hF⟩ | ⟨h7, h8, k9, b9, hk9, e9, hb9, hF⟩
  · refine r_tabOut (pc := 1) (tgt := 143) dX11_count_1 h9 rfl ?_
    refine r_iload_n (pc := 143) 1 dX11_count_143 rfl rfl ?_
    refine r_bipush (pc := 144) (w := 10) dX11_count_144 (by decide) ?_
    refine r_icmp_le (pc := 146) (tgt := 173) dX11_count_146 rfl hF (fun hF => ?_) (fun hF => ?_)
    · exact T.sub ((w_X11_count_p173) M hF) [] [] rfl rfl
    · refine r_iload_n (pc := 149) 1 dX11_count_149 rfl rfl ?_
      refine r_bipush (pc := 150) (w := 10) dX11_count_150 (by decide) ?_
      refine r_isub (pc := 152) dX11_count_152 ?_
      refine r_aload_n (pc := 153) 0 dX11_count_153 rfl rfl ?_
      refine gf_X11_63 (pc := 154) (j := 0) rfl dX11_count_154 ?_
      refine r_lr (by decide) hF (fun b26 hF => ?_)
      refine r_alen (pc := 157) (j := 0) rfl (by decide) dX11_count_157 ?_
      refine r_icmp_ge (pc := 158) (tgt := 173) dX11_count_158 rfl hF (fun hF => ?_) (fun hF => ?_)
      · exact T.sub ((w_X11_count_p173) M hF) [] [] rfl rfl
      · refine r_aload_n (pc := 161) 0 dX11_count_161 rfl rfl ?_
        refine gf_X11_63 (pc := 162) (j := 1) rfl dX11_count_162 ?_
        refine r_lr (by decide) hF (fun b27 hF => ?_)
        refine r_iload_n (pc := 165) 1 dX11_count_165 rfl rfl ?_
        refine r_bipush (pc := 166) (w := 10) dX11_count_166 (by decide) ?_
        refine r_isub (pc := 168) dX11_count_168 ?_
        refine r_iald (pc := 169) (j := 0) rfl dX11_count_169 hF (fun hF => ?_)
        refine r_goto (pc := 170) (tgt := 175) dX11_count_170 rfl ?_
        exact T.sub ((w_X11_count_p175) M (gA M b27 (ixn (a1 - (10 : Int32)))) hF) [] [] rfl rfl
  · rcases (show k9 = 0 ∨ k9 = 1 ∨ k9 = 2 ∨ k9 = 3 ∨ k9 = 4 ∨ k9 = 5 ∨ k9 = 6 ∨ k9 = 7 ∨ k9 = 8 by omega) with rfl | rfl | rfl | rfl | rfl | rfl | rfl | rfl | rfl
    · cases hb9
      refine r_tabIn (pc := 1) (tgt := 52) dX11_count_1 h7 h8 (by rw [e9]; rfl) rfl ?_
      refine r_aload_n (pc := 52) 0 dX11_count_52 rfl rfl ?_
      refine gf_X11_49 (pc := 53) (j := 0) rfl dX11_count_53 ?_
      refine r_lr (by decide) hF (fun b1 hF => ?_)
      refine gf_X11_67 (pc := 56) (j := 0) rfl dX11_count_56 ?_
      exact r_iret (pc := 59) dX11_count_59 hF
    · cases hb9
      refine r_tabIn (pc := 1) (tgt := 60) dX11_count_1 h7 h8 (by rw [e9]; rfl) rfl ?_
      refine r_aload_n (pc := 60) 0 dX11_count_60 rfl rfl ?_
      refine gf_X11_49 (pc := 61) (j := 0) rfl dX11_count_61 ?_
      refine r_lr (by decide) hF (fun b2 hF => ?_)
      refine gf_X11_82 (pc := 64) (j := 0) rfl dX11_count_64 ?_
      refine r_lr (by decide) hF (fun b3 hF => ?_)
      refine r_callV_I (pc := 67) (Py := P_Jx4a65c_size_8abf5) (n := 0) (As := []) (fun q e => k_Jx4a65c_size_8abf5 G _ b3 q e) (c := 0) (Tb := TJx4a65c) (N := 3) rfl (by decide) (j0 := 0) rfl tw_470 tw_344 tw_345 tw_64 tw_346 hd_Jx4a65c_size_8abf5 ⟨Nat.le_of_ble_eq_true rfl, Nat.le_of_ble_eq_true rfl⟩ rfl [0] rfl rfl (Nat.le_of_ble_eq_true rfl) dX11_count_67 hF (fun M4 r5 hF => ?_)
      exact r_iret (pc := 70) dX11_count_70 hF
    · cases hb9
      refine r_tabIn (pc := 1) (tgt := 71) dX11_count_1 h7 h8 (by rw [e9]; rfl) rfl ?_
      refine r_aload_n (pc := 71) 0 dX11_count_71 rfl rfl ?_
      refine gf_X11_49 (pc := 72) (j := 0) rfl dX11_count_72 ?_
      refine r_lr (by decide) hF (fun b6 hF => ?_)
      refine r_callV_I (pc := 75) (Py := P_X1_openOnes) (n := 0) (As := []) (fun q e => k_X1_openOnes G _ b6 q e) (c := 2) (Tb := TX1) (N := 7) rfl (by decide) (j0 := 0) rfl tw_1072 tw_1073 tw_1074 tw_69 tw_1075 hd_X1_openOnes ⟨Nat.le_of_ble_eq_true rfl, Nat.le_of_ble_eq_true rfl⟩ rfl [0] rfl rfl (Nat.le_of_ble_eq_true rfl) dX11_count_75 hF (fun M7 r8 hF => ?_)
      exact r_iret (pc := 78) dX11_count_78 hF
    · cases hb9
      refine r_tabIn (pc := 1) (tgt := 79) dX11_count_1 h7 h8 (by rw [e9]; rfl) rfl ?_
      refine r_aload_n (pc := 79) 0 dX11_count_79 rfl rfl ?_
      refine gf_X11_10 (pc := 80) (j := 0) rfl dX11_count_80 ?_
      refine r_lr (by decide) hF (fun b9 hF => ?_)
      refine gf_X11_136 (pc := 83) (j := 0) rfl dX11_count_83 ?_
      refine r_lr (by decide) hF (fun b10 hF => ?_)
      refine r_callV_I (pc := 86) (Py := P_Jx4a65c_size_8abf5) (n := 0) (As := []) (fun q e => k_Jx4a65c_size_8abf5 G _ b10 q e) (c := 0) (Tb := TJx4a65c) (N := 3) rfl (by decide) (j0 := 0) rfl tw_470 tw_344 tw_345 tw_64 tw_346 hd_Jx4a65c_size_8abf5 ⟨Nat.le_of_ble_eq_true rfl, Nat.le_of_ble_eq_true rfl⟩ rfl [0] rfl rfl (Nat.le_of_ble_eq_true rfl) dX11_count_86 hF (fun M11 r12 hF => ?_)
      exact r_iret (pc := 89) dX11_count_89 hF
    · cases hb9
      refine r_tabIn (pc := 1) (tgt := 90) dX11_count_1 h7 h8 (by rw [e9]; rfl) rfl ?_
      refine r_aload_n (pc := 90) 0 dX11_count_90 rfl rfl ?_
      refine gf_X11_10 (pc := 91) (j := 0) rfl dX11_count_91 ?_
      refine r_lr (by decide) hF (fun b13 hF => ?_)
      refine r_aload_n (pc := 94) 0 dX11_count_94 rfl rfl ?_
      refine gf_X11_49 (pc := 95) (j := 1) rfl dX11_count_95 ?_
      refine r_lr (by decide) hF (fun b14 hF => ?_)
      refine gf_X11_67 (pc := 98) (j := 0) rfl dX11_count_98 ?_
      refine r_bipush (pc := 101) (w := 24) dX11_count_101 (by decide) ?_
      refine r_idivc (pc := 103) dX11_count_103 (by decide) ?_
      refine r_callV_I (pc := 104) (Py := P_X10_joinedOn) (n := 1) (As := [.int ((gI M 206 b14) / (24 : Int32))]) (fun q e => k_X10_joinedOn G _ b13 ((gI M 206 b14) / (24 : Int32)) q e) (c := 11) (Tb := TX10) (N := 4) rfl (by decide) (j0 := 1) rfl tw_1076 tw_1077 tw_1078 tw_61 tw_1079 hd_X10_joinedOn ⟨Nat.le_of_ble_eq_true rfl, Nat.le_of_ble_eq_true rfl⟩ rfl [1] rfl rfl (Nat.le_of_ble_eq_true rfl) dX11_count_104 hF (fun M15 r16 hF => ?_)
      exact r_iret (pc := 107) dX11_count_107 hF
    · cases hb9
      refine r_tabIn (pc := 1) (tgt := 108) dX11_count_1 h7 h8 (by rw [e9]; rfl) rfl ?_
      refine r_aload_n (pc := 108) 0 dX11_count_108 rfl rfl ?_
      refine gf_X11_19 (pc := 109) (j := 0) rfl dX11_count_109 ?_
      refine r_lr (by decide) hF (fun b17 hF => ?_)
      refine gf_X11_174 (pc := 112) (j := 0) rfl dX11_count_112 ?_
      exact r_iret (pc := 115) dX11_count_115 hF
    · cases hb9
      refine r_tabIn (pc := 1) (tgt := 116) dX11_count_1 h7 h8 (by rw [e9]; rfl) rfl ?_
      refine r_aload_n (pc := 116) 0 dX11_count_116 rfl rfl ?_
      refine gf_X11_26 (pc := 117) (j := 0) rfl dX11_count_117 ?_
      refine r_lr (by decide) hF (fun b18 hF => ?_)
      refine gf_X11_198 (pc := 120) (j := 0) rfl dX11_count_120 ?_
      refine r_lr (by decide) hF (fun b19 hF => ?_)
      refine r_callV_I (pc := 123) (Py := P_Jx4a65c_size_8abf5) (n := 0) (As := []) (fun q e => k_Jx4a65c_size_8abf5 G _ b19 q e) (c := 0) (Tb := TJx4a65c) (N := 3) rfl (by decide) (j0 := 0) rfl tw_470 tw_344 tw_345 tw_64 tw_346 hd_Jx4a65c_size_8abf5 ⟨Nat.le_of_ble_eq_true rfl, Nat.le_of_ble_eq_true rfl⟩ rfl [0] rfl rfl (Nat.le_of_ble_eq_true rfl) dX11_count_123 hF (fun M20 r21 hF => ?_)
      exact r_iret (pc := 126) dX11_count_126 hF
    · cases hb9
      refine r_tabIn (pc := 1) (tgt := 127) dX11_count_1 h7 h8 (by rw [e9]; rfl) rfl ?_
      refine r_aload_n (pc := 127) 0 dX11_count_127 rfl rfl ?_
      refine gf_X11_33 (pc := 128) (j := 0) rfl dX11_count_128 ?_
      refine r_lr (by decide) hF (fun b22 hF => ?_)
      refine gf_X11_193 (pc := 131) (j := 0) rfl dX11_count_131 ?_
      exact r_iret (pc := 134) dX11_count_134 hF
    · cases hb9
      refine r_tabIn (pc := 1) (tgt := 135) dX11_count_1 h7 h8 (by rw [e9]; rfl) rfl ?_
      refine r_aload_n (pc := 135) 0 dX11_count_135 rfl rfl ?_
      refine gf_X11_59 (pc := 136) (j := 0) rfl dX11_count_136 ?_
      refine r_lr (by decide) hF (fun b23 hF => ?_)
      refine r_callV_I (pc := 139) (Py := P_Jx4a65c_size_8abf5) (n := 0) (As := []) (fun q e => k_Jx4a65c_size_8abf5 G _ b23 q e) (c := 0) (Tb := TJx4a65c) (N := 3) rfl (by decide) (j0 := 0) rfl tw_470 tw_344 tw_345 tw_64 tw_346 hd_Jx4a65c_size_8abf5 ⟨Nat.le_of_ble_eq_true rfl, Nat.le_of_ble_eq_true rfl⟩ rfl [0] rfl rfl (Nat.le_of_ble_eq_true rfl) dX11_count_139 hF (fun M24 r25 hF => ?_)
      exact r_iret (pc := 142) dX11_count_142 hF
theorem k_X11_count (G : EG) (M : Mem) (a0 : Nat) (a1 : Int32) (q : Mem × Int32) (h : F_X11_count M a0 a1 = some q) : Kt yX11_count P_X11_count M [(a0, 13)] [.ref a0, .int a1] (RI G q) := Kt.of (by decide +kernel) rfl (Nat.le_of_ble_eq_true rfl) rfl (fun X hz => w_X11_count M a0 a1 h)
set_option maxHeartbeats 4000000 in
theorem w_X9_put_p39 {X : Option Cx} {G : EG} {res : Mem × Unit} : ∀ (M : Mem), F_X9_put_p39 M = some res → T X (RV G res) P_X9_put M [] [] [] 39 := by
  intro M hF
  unfold F_X9_put_p39 at hF
  exact r_vret (pc := 39) dX9_put_39 hF
set_option maxHeartbeats 4000000 in
theorem w_X9_put {X : Option Cx} {G : EG} {res : Mem × Unit} (M : Mem) (a0 : Nat) (a1 : Int32) (hF : F_X9_put M a0 a1 = some res) : T X (RV G res) P_X9_put M [(a0, 11)] [(0, .ref a0), (1, .int a1)] [] 0 := by
  unfold F_X9_put at hF
  refine r_aload_n (pc := 0) 0 dX9_put_0 rfl rfl ?_
  refine gf_X9_18 (pc := 1) (j := 0) rfl dX9_put_1 ?_
  refine r_if_lt (pc := 4) (tgt := 39) dX9_put_4 rfl hF (fun hF => ?_) (fun hF => ?_)
  · exact T.sub ((w_X9_put_p39) M hF) [] [] rfl rfl
  · refine r_aload_n (pc := 7) 0 dX9_put_7 rfl rfl ?_
    refine gf_X9_18 (pc := 8) (j := 0) rfl dX9_put_8 ?_
    refine r_aload_n (pc := 11) 0 dX9_put_11 rfl rfl ?_
    refine gf_X9_9 (pc := 12) (j := 0) rfl dX9_put_12 ?_
    refine r_lr (by decide) hF (fun b1 hF => ?_)
    refine r_alen (pc := 15) (j := 0) rfl (by decide) dX9_put_15 ?_
    refine r_icmp_ge (pc := 16) (tgt := 39) dX9_put_16 rfl hF (fun hF => ?_) (fun hF => ?_)
    · exact T.sub ((w_X9_put_p39) M hF) [] [] rfl rfl
    · refine r_aload_n (pc := 19) 0 dX9_put_19 rfl rfl ?_
      refine gf_X9_9 (pc := 20) (j := 1) rfl dX9_put_20 ?_
      refine r_lr (by decide) hF (fun b2 hF => ?_)
      refine r_aload_n (pc := 23) 0 dX9_put_23 rfl rfl ?_
      refine gf_X9_18 (pc := 24) (j := 2) rfl dX9_put_24 ?_
      refine r_iload_n (pc := 27) 1 dX9_put_27 rfl rfl ?_
      refine r_iast (pc := 28) (j := 0) rfl dX9_put_28 hF (fun M3 hF => ?_)
      refine r_aload_n (pc := 29) 0 dX9_put_29 rfl rfl ?_
      refine r_dup (pc := 30) dX9_put_30 rfl ?_
      refine gf_X9_18 (pc := 31) (j := 2) rfl dX9_put_31 ?_
      refine r_iconst (pc := 34) (w := 1) dX9_put_34 (by decide) ?_
      refine r_iadd (pc := 35) dX9_put_35 ?_
      refine pf_X9_18 (pc := 36) (j := 2) rfl dX9_put_36 hF (fun M4 hF => ?_)
      exact T.sub ((w_X9_put_p39) M4 hF) [] [] rfl rfl
theorem k_X9_put (G : EG) (M : Mem) (a0 : Nat) (a1 : Int32) (q : Mem × Unit) (h : F_X9_put M a0 a1 = some q) : Kt yX9_put P_X9_put M [(a0, 11)] [.ref a0, .int a1] (RV G q) := Kt.of (by decide +kernel) rfl (Nat.le_of_ble_eq_true rfl) rfl (fun X hz => w_X9_put M a0 a1 h)
set_option maxHeartbeats 4000000 in
theorem w_X11_feed_p32 {X : Option Cx} {G : EG} {res : Mem × Int32} : ∀ (M : Mem) (x0 : Nat), F_X11_feed_p32 M x0 = some res → T X (RI G res) P_X11_feed M [(x0, 13)] [(0, .ref x0)] [] 32 := by
  intro M x0 hF
  unfold F_X11_feed_p32 at hF
  refine r_aload_n (pc := 32) 0 dX11_feed_32 rfl rfl ?_
  refine r_bipush (pc := 33) (w := -6) dX11_feed_33 (by decide) ?_
  refine r_callV_I (pc := 35) (Py := P_X11_refuse) (n := 1) (As := [.int ((-6 : Int32))]) (fun q e => k_X11_refuse G _ x0 (-6 : Int32) q e) (c := 12) (Tb := TX11) (N := 11) rfl (by decide) (j0 := 0) rfl tw_322 tw_324 tw_0 tw_60 tw_325 hd_X11_refuse ⟨Nat.le_of_ble_eq_true rfl, Nat.le_of_ble_eq_true rfl⟩ rfl [0] rfl rfl (Nat.le_of_ble_eq_true rfl) dX11_feed_35 hF (fun M1 r2 hF => ?_)
  exact r_iret (pc := 38) dX11_feed_38 hF
set_option maxHeartbeats 4000000 in
theorem w_X11_feed_p42 {X : Option Cx} {G : EG} {res : Mem × Int32} {k73 : Mem → Nat → Option (Mem × Int32)} (hk73 : ∀ (M : Mem) (x0 : Nat), k73 M x0 = some res → T X (RI G res) P_X11_feed M [(x0, 13)] [(0, .ref x0)] [] 73) : ∀ (n : Nat) (M : Mem) (x0 : Nat) (x1 : Int32) (x2 : Int64) (x4 : Int32), F_X11_feed_p42 k73 n M x0 x1 x2 x4 = some res → T X (RI G res) P_X11_feed M [(x0, 13)] [(0, .ref x0), (1, .int x1), (2, .long x2), (4, .int x4)] [] 42 := by
  intro n
  induction n with
  | zero =>
    intro M x0 x1 x2 x4 hF
    cases hF
  | succ n ih =>
    intro M x0 x1 x2 x4 hF
    unfold F_X11_feed_p42 at hF
    refine r_iload (pc := 42) 3 dX11_feed_42 rfl ?_
    refine r_iload_n (pc := 44) 1 dX11_feed_44 rfl rfl ?_
    refine r_icmp_ge (pc := 45) (tgt := 73) dX11_feed_45 rfl hF (fun hF => ?_) (fun hF => ?_)
    · exact T.sub (hk73 M x0 hF) [0] [0] rfl rfl
    · refine r_aload_n (pc := 48) 0 dX11_feed_48 rfl rfl ?_
      refine gf_X11_33 (pc := 49) (j := 0) rfl dX11_feed_49 ?_
      refine r_lr (by decide) hF (fun b1 hF => ?_)
      refine r_lload_n (pc := 52) 2 dX11_feed_52 rfl rfl ?_
      refine r_bipush (pc := 53) (w := 8) dX11_feed_53 (by decide) ?_
      refine r_iload (pc := 55) 3 dX11_feed_55 rfl ?_
      refine r_imul (pc := 57) dX11_feed_57 ?_
      refine r_lushr (pc := 58) dX11_feed_58 ?_
      refine r_l2i (pc := 59) dX11_feed_59 ?_
      refine r_sipush (pc := 60) (w := 255) dX11_feed_60 (by decide) ?_
      refine r_iand (pc := 63) dX11_feed_63 ?_
      refine r_callV_V (pc := 64) (Py := P_X9_put) (n := 1) (As := [.int ((((x2.toUInt64 >>> (((8 : Int32) * x4).toInt64.toUInt64 &&& Int64.toUInt64 63)).toInt64).toInt32) &&& (255 : Int32))]) (fun q e => k_X9_put G _ b1 ((((x2.toUInt64 >>> (((8 : Int32) * x4).toInt64.toUInt64 &&& Int64.toUInt64 63)).toInt64).toInt32) &&& (255 : Int32)) q e) (c := 10) (Tb := TX9) (N := 6) rfl (by decide) (j0 := 0) rfl tw_748 tw_749 tw_750 tw_67 tw_751 hd_X9_put ⟨Nat.le_of_ble_eq_true rfl, Nat.le_of_ble_eq_true rfl⟩ rfl [0] rfl rfl (Nat.le_of_ble_eq_true rfl) dX11_feed_64 hF (fun M2 r3 hF => ?_)
      obtain ⟨v4, e9, hF⟩ := bnd_e hF
      refine r_iinc (pc := 67) (w := v4) (k := 3) (L1 := [(4, .int v4), (0, .ref x0), (1, .int x1), (2, .long x2)]) dX11_feed_67 rfl (by rw [e9]; rfl) (by decide) rfl ?_
      clear e9
      refine r_goto (pc := 70) (tgt := 42) dX11_feed_70 rfl ?_
      exact T.sub (ih M2 x0 x1 x2 v4 hF) [1] [1, 2, 3, 0] rfl rfl
set_option maxHeartbeats 4000000 in
theorem w_X11_feed_p73 {X : Option Cx} {G : EG} {res : Mem × Int32} : ∀ (M : Mem) (x0 : Nat), F_X11_feed_p73 M x0 = some res → T X (RI G res) P_X11_feed M [(x0, 13)] [(0, .ref x0)] [] 73 := by
  intro M x0 hF
  unfold F_X11_feed_p73 at hF
  refine r_aload_n (pc := 73) 0 dX11_feed_73 rfl rfl ?_
  refine gf_X11_33 (pc := 74) (j := 0) rfl dX11_feed_74 ?_
  refine r_lr (by decide) hF (fun b1 hF => ?_)
  refine gf_X11_193 (pc := 77) (j := 0) rfl dX11_feed_77 ?_
  exact r_iret (pc := 80) dX11_feed_80 hF
set_option maxHeartbeats 4000000 in
theorem w_X11_feed {X : Option Cx} {G : EG} {res : Mem × Int32} (M : Mem) (a0 : Nat) (a1 : Int32) (a2 : Int64) (hF : F_X11_feed M a0 a1 a2 = some res) : T X (RI G res) P_X11_feed M [(a0, 13)] [(0, .ref a0), (1, .int a1), (2, .long a2)] [] 0 := by
  unfold F_X11_feed at hF
  refine r_iload_n (pc := 0) 1 dX11_feed_0 rfl rfl ?_
  refine r_iconst (pc := 1) (w := 1) dX11_feed_1 (by decide) ?_
  refine r_icmp_ge (pc := 2) (tgt := 12) dX11_feed_2 rfl hF (fun hF => ?_) (fun hF => ?_)
  · refine r_iload_n (pc := 12) 1 dX11_feed_12 rfl rfl ?_
    refine r_bipush (pc := 13) (w := 8) dX11_feed_13 (by decide) ?_
    refine r_icmp_gt (pc := 15) (tgt := 32) dX11_feed_15 rfl hF (fun hF => ?_) (fun hF => ?_)
    · exact T.sub ((w_X11_feed_p32) M a0 hF) [0] [0] rfl rfl
    · refine r_iload_n (pc := 18) 1 dX11_feed_18 rfl rfl ?_
      refine r_bipush (pc := 19) (w := 60) dX11_feed_19 (by decide) ?_
      refine r_aload_n (pc := 21) 0 dX11_feed_21 rfl rfl ?_
      refine gf_X11_33 (pc := 22) (j := 0) rfl dX11_feed_22 ?_
      refine r_lr (by decide) hF (fun b1 hF => ?_)
      refine gf_X11_193 (pc := 25) (j := 0) rfl dX11_feed_25 ?_
      refine r_isub (pc := 28) dX11_feed_28 ?_
      refine r_icmp_le (pc := 29) (tgt := 39) dX11_feed_29 rfl hF (fun hF => ?_) (fun hF => ?_)
      · refine r_iconst (pc := 39) (w := 0) dX11_feed_39 (by decide) ?_
        refine r_istore (pc := 40) (L1 := [(4, .int ((0 : Int32))), (0, .ref a0), (1, .int a1), (2, .long a2)]) dX11_feed_40 (by decide) rfl ?_
        exact T.sub ((w_X11_feed_p42 (w_X11_feed_p73) FU) M a0 a1 a2 (0 : Int32) hF) [1] [1, 2, 3, 0] rfl rfl
      · exact T.sub ((w_X11_feed_p32) M a0 hF) [1] [0] rfl rfl
  · refine r_aload_n (pc := 5) 0 dX11_feed_5 rfl rfl ?_
    refine r_bipush (pc := 6) (w := -4) dX11_feed_6 (by decide) ?_
    refine r_callV_I (pc := 8) (Py := P_X11_refuse) (n := 1) (As := [.int ((-4 : Int32))]) (fun q e => k_X11_refuse G _ a0 (-4 : Int32) q e) (c := 12) (Tb := TX11) (N := 11) rfl (by decide) (j0 := 0) rfl tw_322 tw_324 tw_0 tw_60 tw_325 hd_X11_refuse ⟨Nat.le_of_ble_eq_true rfl, Nat.le_of_ble_eq_true rfl⟩ rfl [0] rfl rfl (Nat.le_of_ble_eq_true rfl) dX11_feed_8 hF (fun M2 r3 hF => ?_)
    exact r_iret (pc := 11) dX11_feed_11 hF
theorem k_X11_feed (G : EG) (M : Mem) (a0 : Nat) (a1 : Int32) (a2 : Int64) (q : Mem × Int32) (h : F_X11_feed M a0 a1 a2 = some q) : Kt yX11_feed P_X11_feed M [(a0, 13)] [.ref a0, .int a1, .long a2] (RI G q) := Kt.of (by decide +kernel) rfl (Nat.le_of_ble_eq_true rfl) rfl (fun X hz => w_X11_feed M a0 a1 a2 h)
set_option maxHeartbeats 4000000 in
theorem w_X1_openOnly_p38 {X : Option Cx} {G : EG} {res : Mem × Unit} {k2 : Mem → Nat → Int32 → Int32 → Option (Mem × Unit)} (hk2 : ∀ (M : Mem) (x0 : Nat) (x1 : Int32) (x2 : Int32), k2 M x0 x1 x2 = some res → T X (RV G res) P_X1_openOnly M [(x0, 3)] [(0, .ref x0), (1, .int x1), (2, .int x2)] [] 2) : ∀ (M : Mem) (x0 : Nat) (x1 : Int32) (x2 : Int32) (y0 : Nat) (y1 : Int32), F_X1_openOnly_p38 k2 M x0 x1 x2 y0 y1 = some res → T X (RV G res) P_X1_openOnly M [(x0, 3), (y0, 2)] [(0, .ref x0), (1, .int x1), (2, .int x2)] [.int y1, .ref y0] 38 := by
  intro M x0 x1 x2 y0 y1 hF
  unfold F_X1_openOnly_p38 at hF
  refine pf_X1_99 (pc := 38) (j := 1) rfl dX1_openOnly_38 hF (fun M1 hF => ?_)
  obtain ⟨v2, e9, hF⟩ := bnd_e hF
  refine r_iinc (pc := 41) (w := v2) (k := 2) (L1 := [(2, .int v2), (0, .ref x0), (1, .int x1)]) dX1_openOnly_41 rfl (by rw [e9]; rfl) (by decide) rfl ?_
  clear e9
  refine r_goto (pc := 44) (tgt := 2) dX1_openOnly_44 rfl ?_
  exact T.sub (hk2 M1 x0 x1 v2 hF) [0] [1, 2, 0] rfl rfl
set_option maxHeartbeats 4000000 in
theorem w_X1_openOnly_p2 {X : Option Cx} {G : EG} {res : Mem × Unit} {k47 : Mem → Option (Mem × Unit)} (hk47 : ∀ (M : Mem), k47 M = some res → T X (RV G res) P_X1_openOnly M [] [] [] 47) : ∀ (n : Nat) (M : Mem) (x0 : Nat) (x1 : Int32) (x2 : Int32), F_X1_openOnly_p2 k47 n M x0 x1 x2 = some res → T X (RV G res) P_X1_openOnly M [(x0, 3)] [(0, .ref x0), (1, .int x1), (2, .int x2)] [] 2 := by
  intro n
  induction n with
  | zero =>
    intro M x0 x1 x2 hF
    cases hF
  | succ n ih =>
    intro M x0 x1 x2 hF
    unfold F_X1_openOnly_p2 at hF
    refine r_iload_n (pc := 2) 2 dX1_openOnly_2 rfl rfl ?_
    refine r_aload_n (pc := 3) 0 dX1_openOnly_3 rfl rfl ?_
    refine gf_X1_12 (pc := 4) (j := 0) rfl dX1_openOnly_4 ?_
    refine r_lr (by decide) hF (fun b1 hF => ?_)
    refine r_callV_I (pc := 7) (Py := P_Jx4a65c_size_8abf5) (n := 0) (As := []) (fun q e => k_Jx4a65c_size_8abf5 G _ b1 q e) (c := 0) (Tb := TJx4a65c) (N := 3) rfl (by decide) (j0 := 0) rfl tw_375 tw_344 tw_345 tw_64 tw_346 hd_Jx4a65c_size_8abf5 ⟨Nat.le_of_ble_eq_true rfl, Nat.le_of_ble_eq_true rfl⟩ rfl [0] rfl rfl (Nat.le_of_ble_eq_true rfl) dX1_openOnly_7 hF (fun M2 r3 hF => ?_)
    refine r_icmp_ge (pc := 10) (tgt := 47) dX1_openOnly_10 rfl hF (fun hF => ?_) (fun hF => ?_)
    · exact T.sub (hk47 M2 hF) [] [] rfl rfl
    · refine r_aload_n (pc := 13) 0 dX1_openOnly_13 rfl rfl ?_
      refine gf_X1_12 (pc := 14) (j := 1) rfl dX1_openOnly_14 ?_
      refine r_lr (by decide) hF (fun b4 hF => ?_)
      refine r_iload_n (pc := 17) 2 dX1_openOnly_17 rfl rfl ?_
      refine r_callV_R (pc := 18) (Py := P_Jx4a65c_get_915e3) (n := 1) (As := [.int x2]) (fun q e => k_Jx4a65c_get_915e3 G _ b4 x2 q e) (c := 0) (Tb := TJx4a65c) (N := 3) rfl (by decide) (j0 := 0) rfl tw_376 tw_348 tw_349 tw_64 tw_350 hd_Jx4a65c_get_915e3 ⟨Nat.le_of_ble_eq_true rfl, Nat.le_of_ble_eq_true rfl⟩ rfl [0] rfl rfl (Nat.le_of_ble_eq_true rfl) dX1_openOnly_18 hF (fun M5 r6 hF => ?_)
      refine r_lr (by decide) hF (fun b7 hF => ?_)
      refine r_cast (pc := 21) (c := 1) (Tb := TX0) (N := 11) rfl (by decide) (j := 0) rfl tw_377 dX1_openOnly_21 ?_
      refine r_iload_n (pc := 24) 1 dX1_openOnly_24 rfl rfl ?_
      refine r_iload_n (pc := 25) 2 dX1_openOnly_25 rfl rfl ?_
      refine r_ishr (pc := 26) dX1_openOnly_26 ?_
      refine r_iconst (pc := 27) (w := 1) dX1_openOnly_27 (by decide) ?_
      refine r_iand (pc := 28) dX1_openOnly_28 ?_
      refine r_iconst (pc := 29) (w := 1) dX1_openOnly_29 (by decide) ?_
      refine r_icmp_ne (pc := 30) (tgt := 37) dX1_openOnly_30 rfl hF (fun hF => ?_) (fun hF => ?_)
      · refine r_iconst (pc := 37) (w := 0) dX1_openOnly_37 (by decide) ?_
        exact T.sub ((w_X1_openOnly_p38 ih) M5 x0 x1 x2 b7 (0 : Int32) hF) [3, 0] [0, 1, 2] rfl rfl
      · refine r_iconst (pc := 33) (w := 1) dX1_openOnly_33 (by decide) ?_
        refine r_goto (pc := 34) (tgt := 38) dX1_openOnly_34 rfl ?_
        exact T.sub ((w_X1_openOnly_p38 ih) M5 x0 x1 x2 b7 (1 : Int32) hF) [3, 0] [0, 1, 2] rfl rfl
set_option maxHeartbeats 4000000 in
theorem w_X1_openOnly_p47 {X : Option Cx} {G : EG} {res : Mem × Unit} : ∀ (M : Mem), F_X1_openOnly_p47 M = some res → T X (RV G res) P_X1_openOnly M [] [] [] 47 := by
  intro M hF
  unfold F_X1_openOnly_p47 at hF
  exact r_vret (pc := 47) dX1_openOnly_47 hF
set_option maxHeartbeats 4000000 in
theorem w_X1_openOnly {X : Option Cx} {G : EG} {res : Mem × Unit} (M : Mem) (a0 : Nat) (a1 : Int32) (hF : F_X1_openOnly M a0 a1 = some res) : T X (RV G res) P_X1_openOnly M [(a0, 3)] [(0, .ref a0), (1, .int a1)] [] 0 := by
  unfold F_X1_openOnly at hF
  refine r_iconst (pc := 0) (w := 0) dX1_openOnly_0 (by decide) ?_
  refine r_istore_n (pc := 1) (L1 := [(2, .int ((0 : Int32))), (0, .ref a0), (1, .int a1)]) dX1_openOnly_1 rfl (by decide) rfl ?_
  exact T.sub ((w_X1_openOnly_p2 (w_X1_openOnly_p47) FU) M a0 a1 (0 : Int32) hF) [0] [1, 2, 0] rfl rfl
theorem k_X1_openOnly (G : EG) (M : Mem) (a0 : Nat) (a1 : Int32) (q : Mem × Unit) (h : F_X1_openOnly M a0 a1 = some q) : Kt yX1_openOnly P_X1_openOnly M [(a0, 3)] [.ref a0, .int a1] (RV G q) := Kt.of (by decide +kernel) rfl (Nat.le_of_ble_eq_true rfl) rfl (fun X hz => w_X1_openOnly M a0 a1 h)
set_option maxHeartbeats 4000000 in
theorem w_X11_isEnough_p35 {X : Option Cx} {G : EG} {res : Mem × Int32} {k69 : Mem → Nat → Int64 → Option (Mem × Int32)} (hk69 : ∀ (M : Mem) (x0 : Nat) (x5 : Int64), k69 M x0 x5 = some res → T X (RI G res) P_X11_isEnough M [(x0, 13)] [(0, .ref x0), (5, .long x5)] [] 69) : ∀ (n : Nat) (M : Mem) (x0 : Nat) (x2 : Int32) (x5 : Int64) (x7 : Int32), F_X11_isEnough_p35 k69 n M x0 x2 x5 x7 = some res → T X (RI G res) P_X11_isEnough M [(x0, 13)] [(0, .ref x0), (2, .int x2), (5, .long x5), (7, .int x7)] [] 35 := by
  intro n
  induction n with
  | zero =>
    intro M x0 x2 x5 x7 hF
    cases hF
  | succ n ih =>
    intro M x0 x2 x5 x7 hF
    unfold F_X11_isEnough_p35 at hF
    refine r_iload (pc := 35) 3 dX11_isEnough_35 rfl ?_
    refine r_iload_n (pc := 37) 1 dX11_isEnough_37 rfl rfl ?_
    refine r_icmp_ge (pc := 38) (tgt := 69) dX11_isEnough_38 rfl hF (fun hF => ?_) (fun hF => ?_)
    · exact T.sub (hk69 M x0 x5 hF) [0] [0, 2] rfl rfl
    · refine r_aload_n (pc := 41) 0 dX11_isEnough_41 rfl rfl ?_
      refine gf_X11_53 (pc := 42) (j := 0) rfl dX11_isEnough_42 ?_
      refine r_lr (by decide) hF (fun b1 hF => ?_)
      refine gf_X11_231 (pc := 45) (j := 0) rfl dX11_isEnough_45 ?_
      refine r_lr (by decide) hF (fun b2 hF => ?_)
      refine r_iconst (pc := 48) (w := 5) dX11_isEnough_48 (by decide) ?_
      refine r_lald (pc := 49) (j := 0) rfl dX11_isEnough_49 hF (fun hF => ?_)
      refine r_lload (pc := 50) 2 dX11_isEnough_50 rfl ?_
      refine r_lcmp (pc := 52) dX11_isEnough_52 ?_
      refine r_if_gt (pc := 53) (tgt := 69) dX11_isEnough_53 rfl hF (fun hF => ?_) (fun hF => ?_)
      · exact T.sub (hk69 M x0 x5 hF) [2] [0, 2] rfl rfl
      · refine r_aload_n (pc := 56) 0 dX11_isEnough_56 rfl rfl ?_
        refine gf_X11_53 (pc := 57) (j := 2) rfl dX11_isEnough_57 ?_
        refine r_lr (by decide) hF (fun b3 hF => ?_)
        refine r_callV_V (pc := 60) (Py := P_X1_pass) (n := 0) (As := []) (fun q e => k_X1_pass G _ b3 q e) (c := 2) (Tb := TX1) (N := 7) rfl (by decide) (j0 := 0) rfl tw_326 tw_327 tw_328 tw_69 tw_329 hd_X1_pass ⟨Nat.le_of_ble_eq_true rfl, Nat.le_of_ble_eq_true rfl⟩ rfl [0] rfl rfl (Nat.le_of_ble_eq_true rfl) dX11_isEnough_60 hF (fun M4 r5 hF => ?_)
        obtain ⟨v6, e9, hF⟩ := bnd_e hF
        refine r_iinc (pc := 63) (w := v6) (k := 3) (L1 := [(7, .int v6), (0, .ref x0), (2, .int x2), (5, .long x5)]) dX11_isEnough_63 rfl (by rw [e9]; rfl) (by decide) rfl ?_
        clear e9
        refine r_goto (pc := 66) (tgt := 35) dX11_isEnough_66 rfl ?_
        exact T.sub (ih M4 x0 x2 x5 v6 hF) [3] [1, 2, 3, 0] rfl rfl
set_option maxHeartbeats 4000000 in
theorem w_X11_isEnough_p89 {X : Option Cx} {G : EG} {res : Mem × Int32} : ∀ (M : Mem) (y0 : Int32), F_X11_isEnough_p89 M y0 = some res → T X (RI G res) P_X11_isEnough M [] [] [.int y0] 89 := by
  intro M y0 hF
  unfold F_X11_isEnough_p89 at hF
  exact r_zret (pc := 89) dX11_isEnough_89 hF
set_option maxHeartbeats 4000000 in
theorem w_X11_isEnough_p69 {X : Option Cx} {G : EG} {res : Mem × Int32} : ∀ (M : Mem) (x0 : Nat) (x5 : Int64), F_X11_isEnough_p69 M x0 x5 = some res → T X (RI G res) P_X11_isEnough M [(x0, 13)] [(0, .ref x0), (5, .long x5)] [] 69 := by
  intro M x0 x5 hF
  unfold F_X11_isEnough_p69 at hF
  refine r_aload_n (pc := 69) 0 dX11_isEnough_69 rfl rfl ?_
  refine gf_X11_53 (pc := 70) (j := 0) rfl dX11_isEnough_70 ?_
  refine r_lr (by decide) hF (fun b1 hF => ?_)
  refine gf_X11_231 (pc := 73) (j := 0) rfl dX11_isEnough_73 ?_
  refine r_lr (by decide) hF (fun b2 hF => ?_)
  refine r_iconst (pc := 76) (w := 5) dX11_isEnough_76 (by decide) ?_
  refine r_lald (pc := 77) (j := 0) rfl dX11_isEnough_77 hF (fun hF => ?_)
  refine r_lload (pc := 78) 1 dX11_isEnough_78 rfl ?_
  refine r_lcmp (pc := 80) dX11_isEnough_80 ?_
  refine r_if_gt (pc := 81) (tgt := 88) dX11_isEnough_81 rfl hF (fun hF => ?_) (fun hF => ?_)
  · refine r_iconst (pc := 88) (w := 0) dX11_isEnough_88 (by decide) ?_
    exact T.sub ((w_X11_isEnough_p89) M (0 : Int32) hF) [] [] rfl rfl
  · refine r_iconst (pc := 84) (w := 1) dX11_isEnough_84 (by decide) ?_
    refine r_goto (pc := 85) (tgt := 89) dX11_isEnough_85 rfl ?_
    exact T.sub ((w_X11_isEnough_p89) M (1 : Int32) hF) [] [] rfl rfl
set_option maxHeartbeats 4000000 in
theorem w_X11_isEnough {X : Option Cx} {G : EG} {res : Mem × Int32} (M : Mem) (a0 : Nat) (a1 : Int32) (a2 : Int32) (a3 : Int64) (hF : F_X11_isEnough M a0 a1 a2 a3 = some res) : T X (RI G res) P_X11_isEnough M [(a0, 13)] [(0, .ref a0), (1, .int a1), (2, .int a2), (3, .long a3)] [] 0 := by
  unfold F_X11_isEnough at hF
  refine r_aload_n (pc := 0) 0 dX11_isEnough_0 rfl rfl ?_
  refine gf_X11_53 (pc := 1) (j := 0) rfl dX11_isEnough_1 ?_
  refine r_lr (by decide) hF (fun b1 hF => ?_)
  refine r_aload_n (pc := 4) 0 dX11_isEnough_4 rfl rfl ?_
  refine gf_X11_49 (pc := 5) (j := 1) rfl dX11_isEnough_5 ?_
  refine r_lr (by decide) hF (fun b2 hF => ?_)
  refine r_callV_V (pc := 8) (Py := P_X1_follow) (n := 1) (As := [.ref b2]) (fun q e => k_X1_follow G _ b1 b2 q e) (c := 2) (Tb := TX1) (N := 7) rfl (by decide) (j0 := 1) rfl tw_952 tw_953 tw_954 tw_69 tw_955 hd_X1_follow ⟨Nat.le_of_ble_eq_true rfl, Nat.le_of_ble_eq_true rfl⟩ rfl [1, 0] rfl rfl (Nat.le_of_ble_eq_true rfl) dX11_isEnough_8 hF (fun M3 r4 hF => ?_)
  refine r_aload_n (pc := 11) 0 dX11_isEnough_11 rfl rfl ?_
  refine gf_X11_53 (pc := 12) (j := 2) rfl dX11_isEnough_12 ?_
  refine r_lr (by decide) hF (fun b5 hF => ?_)
  refine r_iload_n (pc := 15) 1 dX11_isEnough_15 rfl rfl ?_
  refine r_callV_V (pc := 16) (Py := P_X1_openOnly) (n := 1) (As := [.int a1]) (fun q e => k_X1_openOnly G _ b5 a1 q e) (c := 2) (Tb := TX1) (N := 7) rfl (by decide) (j0 := 0) rfl tw_991 tw_992 tw_993 tw_69 tw_994 hd_X1_openOnly ⟨Nat.le_of_ble_eq_true rfl, Nat.le_of_ble_eq_true rfl⟩ rfl [0] rfl rfl (Nat.le_of_ble_eq_true rfl) dX11_isEnough_16 hF (fun M6 r7 hF => ?_)
  refine r_aload_n (pc := 19) 0 dX11_isEnough_19 rfl rfl ?_
  refine gf_X11_49 (pc := 20) (j := 3) rfl dX11_isEnough_20 ?_
  refine r_lr (by decide) hF (fun b8 hF => ?_)
  refine gf_X11_231 (pc := 23) (j := 0) rfl dX11_isEnough_23 ?_
  refine r_lr (by decide) hF (fun b9 hF => ?_)
  refine r_iconst (pc := 26) (w := 5) dX11_isEnough_26 (by decide) ?_
  refine r_lald (pc := 27) (j := 0) rfl dX11_isEnough_27 hF (fun hF => ?_)
  refine r_lload_n (pc := 28) 3 dX11_isEnough_28 rfl rfl ?_
  refine r_ladd (pc := 29) dX11_isEnough_29 ?_
  refine r_gJ (pc := 30) hF (fun v10 hF => ?_)
  refine r_lstore (pc := 30) (L1 := [(5, .long v10), (0, .ref a0), (1, .int a1), (2, .int a2), (3, .long a3)]) dX11_isEnough_30 (by decide) rfl ?_
  refine r_iconst (pc := 32) (w := 0) dX11_isEnough_32 (by decide) ?_
  refine r_istore (pc := 33) (L1 := [(7, .int ((0 : Int32))), (5, .long v10), (0, .ref a0), (1, .int a1), (2, .int a2), (3, .long a3)]) dX11_isEnough_33 (by decide) rfl ?_
  exact T.sub ((w_X11_isEnough_p35 (w_X11_isEnough_p69) FU) M6 a0 a2 v10 (0 : Int32) hF) [5] [2, 4, 1, 0] rfl rfl
theorem k_X11_isEnough (G : EG) (M : Mem) (a0 : Nat) (a1 : Int32) (a2 : Int32) (a3 : Int64) (q : Mem × Int32) (h : F_X11_isEnough M a0 a1 a2 a3 = some q) : Kt yX11_isEnough P_X11_isEnough M [(a0, 13)] [.ref a0, .int a1, .int a2, .long a3] (RI G q) := Kt.of (by decide +kernel) rfl (Nat.le_of_ble_eq_true rfl) rfl (fun X hz => w_X11_isEnough M a0 a1 a2 a3 h)
set_option maxHeartbeats 4000000 in
theorem w_X11_few_p9 {X : Option Cx} {G : EG} {res : Mem × Int32} : ∀ (M : Mem) (x0 : Nat), F_X11_few_p9 M x0 = some res → T X (RI G res) P_X11_few M [(x0, 13)] [(0, .ref x0)] [] 9 := by
  intro M x0 hF
  unfold F_X11_few_p9 at hF
  refine r_aload_n (pc := 9) 0 dX11_few_9 rfl rfl ?_
  refine r_bipush (pc := 10) (w := -4) dX11_few_10 (by decide) ?_
  refine r_callV_I (pc := 12) (Py := P_X11_refuse) (n := 1) (As := [.int ((-4 : Int32))]) (fun q e => k_X11_refuse G _ x0 (-4 : Int32) q e) (c := 12) (Tb := TX11) (N := 11) rfl (by decide) (j0 := 0) rfl tw_322 tw_324 tw_0 tw_60 tw_325 hd_X11_refuse ⟨Nat.le_of_ble_eq_true rfl, Nat.le_of_ble_eq_true rfl⟩ rfl [0] rfl rfl (Nat.le_of_ble_eq_true rfl) dX11_few_12 hF (fun M1 r2 hF => ?_)
  exact r_iret (pc := 15) dX11_few_15 hF
set_option maxHeartbeats 4000000 in
theorem w_X11_few_p28 {X : Option Cx} {G : EG} {res : Mem × Int32} : ∀ (M : Mem) (x0 : Nat), F_X11_few_p28 M x0 = some res → T X (RI G res) P_X11_few M [(x0, 13)] [(0, .ref x0)] [] 28 := by
  intro M x0 hF
  unfold F_X11_few_p28 at hF
  refine r_aload_n (pc := 28) 0 dX11_few_28 rfl rfl ?_
  refine r_bipush (pc := 29) (w := -6) dX11_few_29 (by decide) ?_
  refine r_callV_I (pc := 31) (Py := P_X11_refuse) (n := 1) (As := [.int ((-6 : Int32))]) (fun q e => k_X11_refuse G _ x0 (-6 : Int32) q e) (c := 12) (Tb := TX11) (N := 11) rfl (by decide) (j0 := 0) rfl tw_322 tw_324 tw_0 tw_60 tw_325 hd_X11_refuse ⟨Nat.le_of_ble_eq_true rfl, Nat.le_of_ble_eq_true rfl⟩ rfl [0] rfl rfl (Nat.le_of_ble_eq_true rfl) dX11_few_31 hF (fun M1 r2 hF => ?_)
  exact r_iret (pc := 34) dX11_few_34 hF
set_option maxHeartbeats 4000000 in
theorem w_X11_few_p91 {X : Option Cx} {G : EG} {res : Mem × Int32} {k58 : Mem → Nat → Int32 → Int32 → Int32 → Int32 → Int32 → Option (Mem × Int32)} (hk58 : ∀ (M : Mem) (x0 : Nat) (x1 : Int32) (x2 : Int32) (x3 : Int32) (x4 : Int32) (x5 : Int32), k58 M x0 x1 x2 x3 x4 x5 = some res → T X (RI G res) P_X11_few M [(x0, 13)] [(0, .ref x0), (1, .int x1), (2, .int x2), (3, .int x3), (4, .int x4), (5, .int x5)] [] 58) : ∀ (M : Mem) (x0 : Nat) (x1 : Int32) (x2 : Int32) (x3 : Int32) (x4 : Int32) (x5 : Int32), F_X11_few_p91 k58 M x0 x1 x2 x3 x4 x5 = some res → T X (RI G res) P_X11_few M [(x0, 13)] [(0, .ref x0), (1, .int x1), (2, .int x2), (3, .int x3), (4, .int x4), (5, .int x5)] [] 91 := by
  intro M x0 x1 x2 x3 x4 x5 hF
  unfold F_X11_few_p91 at hF
  obtain ⟨v1, e9, hF⟩ := bnd_e hF
  refine r_iinc (pc := 91) (w := v1) (k := 5) (L1 := [(5, .int v1), (0, .ref x0), (1, .int x1), (2, .int x2), (3, .int x3), (4, .int x4)]) dX11_few_91 rfl (by rw [e9]; rfl) (by decide) rfl ?_
  clear e9
  refine r_goto (pc := 94) (tgt := 58) dX11_few_94 rfl ?_
  exact T.sub (hk58 M x0 x1 x2 x3 x4 v1 hF) [0] [1, 2, 3, 4, 5, 0] rfl rfl
set_option maxHeartbeats 4000000 in
theorem w_X11_few_p58 {X : Option Cx} {G : EG} {res : Mem × Int32} {k88 : Mem → Int32 → Option (Mem × Int32)} (hk88 : ∀ (M : Mem) (x5 : Int32), k88 M x5 = some res → T X (RI G res) P_X11_few M [] [(5, .int x5)] [] 88) {k97 : Mem → Nat → Int32 → Int32 → Int32 → Int32 → Option (Mem × Int32)} (hk97 : ∀ (M : Mem) (x0 : Nat) (x1 : Int32) (x2 : Int32) (x3 : Int32) (x4 : Int32), k97 M x0 x1 x2 x3 x4 = some res → T X (RI G res) P_X11_few M [(x0, 13)] [(0, .ref x0), (1, .int x1), (2, .int x2), (3, .int x3), (4, .int x4)] [] 97) : ∀ (n : Nat) (M : Mem) (x0 : Nat) (x1 : Int32) (x2 : Int32) (x3 : Int32) (x4 : Int32) (x5 : Int32), F_X11_few_p58 k88 k97 n M x0 x1 x2 x3 x4 x5 = some res → T X (RI G res) P_X11_few M [(x0, 13)] [(0, .ref x0), (1, .int x1), (2, .int x2), (3, .int x3), (4, .int x4), (5, .int x5)] [] 58 := by
  intro n
  induction n with
  | zero =>
    intro M x0 x1 x2 x3 x4 x5 hF
    cases hF
  | succ n ih =>
    intro M x0 x1 x2 x3 x4 x5 hF
    unfold F_X11_few_p58 at hF
    refine r_iload (pc := 58) 5 dX11_few_58 rfl ?_
    refine r_iconst (pc := 60) (w := 1) dX11_few_60 (by decide) ?_
    refine r_iload_n (pc := 61) 3 dX11_few_61 rfl rfl ?_
    refine r_ishl (pc := 62) dX11_few_62 ?_
    refine r_icmp_ge (pc := 63) (tgt := 97) dX11_few_63 rfl hF (fun hF => ?_) (fun hF => ?_)
    · exact T.sub (hk97 M x0 x1 x2 x3 x4 hF) [0] [0, 1, 2, 3, 4] rfl rfl
    · refine r_iload (pc := 66) 5 dX11_few_66 rfl ?_
      refine r_callS_I (pc := 68) (Py := P_J6_bitCount_0f7a4) (n := 1) (As := [.int x5]) (fun q e => k_J6_bitCount_0f7a4 G _ x5 q e) tw_981 tw_982 tw_85 tw_983 hd_J6_bitCount_0f7a4 ⟨Nat.le_of_ble_eq_true rfl, Nat.le_of_ble_eq_true rfl⟩ rfl [] rfl rfl (Nat.le_of_ble_eq_true rfl) dX11_few_68 hF (fun M1 r2 hF => ?_)
      refine r_iload (pc := 71) 4 dX11_few_71 rfl ?_
      refine r_icmp_ne (pc := 73) (tgt := 91) dX11_few_73 rfl hF (fun hF => ?_) (fun hF => ?_)
      · exact T.sub ((w_X11_few_p91 ih) M1 x0 x1 x2 x3 x4 x5 hF) [0] [0, 1, 2, 3, 4, 5] rfl rfl
      · refine r_aload_n (pc := 76) 0 dX11_few_76 rfl rfl ?_
        refine r_iload (pc := 77) 5 dX11_few_77 rfl ?_
        refine r_iload_n (pc := 79) 1 dX11_few_79 rfl rfl ?_
        refine r_iload_n (pc := 80) 2 dX11_few_80 rfl rfl ?_
        refine r_i2l (pc := 81) dX11_few_81 ?_
        refine r_callV_I (pc := 82) (Py := P_X11_isEnough) (n := 3) (As := [.int x5, .int x1, .long (x2.toInt64)]) (fun q e => k_X11_isEnough G _ x0 x5 x1 (x2.toInt64) q e) (c := 12) (Tb := TX11) (N := 11) rfl (by decide) (j0 := 0) rfl tw_987 tw_989 tw_23 tw_60 tw_990 hd_X11_isEnough ⟨Nat.le_of_ble_eq_true rfl, Nat.le_of_ble_eq_true rfl⟩ rfl [0] rfl rfl (Nat.le_of_ble_eq_true rfl) dX11_few_82 hF (fun M3 r4 hF => ?_)
        refine r_if_eq (pc := 85) (tgt := 91) dX11_few_85 rfl hF (fun hF => ?_) (fun hF => ?_)
        · exact T.sub ((w_X11_few_p91 ih) M3 x0 x1 x2 x3 x4 x5 hF) [0] [0, 1, 2, 3, 4, 5] rfl rfl
        · exact T.sub (hk88 M3 x5 hF) [] [5] rfl rfl
set_option maxHeartbeats 4000000 in
theorem w_X11_few_p97 {X : Option Cx} {G : EG} {res : Mem × Int32} {k49 : Mem → Nat → Int32 → Int32 → Int32 → Int32 → Option (Mem × Int32)} (hk49 : ∀ (M : Mem) (x0 : Nat) (x1 : Int32) (x2 : Int32) (x3 : Int32) (x4 : Int32), k49 M x0 x1 x2 x3 x4 = some res → T X (RI G res) P_X11_few M [(x0, 13)] [(0, .ref x0), (1, .int x1), (2, .int x2), (3, .int x3), (4, .int x4)] [] 49) : ∀ (M : Mem) (x0 : Nat) (x1 : Int32) (x2 : Int32) (x3 : Int32) (x4 : Int32), F_X11_few_p97 k49 M x0 x1 x2 x3 x4 = some res → T X (RI G res) P_X11_few M [(x0, 13)] [(0, .ref x0), (1, .int x1), (2, .int x2), (3, .int x3), (4, .int x4)] [] 97 := by
  intro M x0 x1 x2 x3 x4 hF
  unfold F_X11_few_p97 at hF
  obtain ⟨v1, e9, hF⟩ := bnd_e hF
  refine r_iinc (pc := 97) (w := v1) (k := 4) (L1 := [(4, .int v1), (0, .ref x0), (1, .int x1), (2, .int x2), (3, .int x3)]) dX11_few_97 rfl (by rw [e9]; rfl) (by decide) rfl ?_
  clear e9
  refine r_goto (pc := 100) (tgt := 49) dX11_few_100 rfl ?_
  exact T.sub (hk49 M x0 x1 x2 x3 v1 hF) [0] [1, 2, 3, 4, 0] rfl rfl
set_option maxHeartbeats 4000000 in
theorem w_X11_few_p49 {X : Option Cx} {G : EG} {res : Mem × Int32} {k88 : Mem → Int32 → Option (Mem × Int32)} (hk88 : ∀ (M : Mem) (x5 : Int32), k88 M x5 = some res → T X (RI G res) P_X11_few M [] [(5, .int x5)] [] 88) {k103 : Mem → Option (Mem × Int32)} (hk103 : ∀ (M : Mem), k103 M = some res → T X (RI G res) P_X11_few M [] [] [] 103) : ∀ (n : Nat) (M : Mem) (x0 : Nat) (x1 : Int32) (x2 : Int32) (x3 : Int32) (x4 : Int32), F_X11_few_p49 k88 k103 n M x0 x1 x2 x3 x4 = some res → T X (RI G res) P_X11_few M [(x0, 13)] [(0, .ref x0), (1, .int x1), (2, .int x2), (3, .int x3), (4, .int x4)] [] 49 := by
  intro n
  induction n with
  | zero =>
    intro M x0 x1 x2 x3 x4 hF
    cases hF
  | succ n ih =>
    intro M x0 x1 x2 x3 x4 hF
    unfold F_X11_few_p49 at hF
    refine r_iload (pc := 49) 4 dX11_few_49 rfl ?_
    refine r_iload_n (pc := 51) 3 dX11_few_51 rfl rfl ?_
    refine r_icmp_gt (pc := 52) (tgt := 103) dX11_few_52 rfl hF (fun hF => ?_) (fun hF => ?_)
    · exact T.sub (hk103 M hF) [] [] rfl rfl
    · refine r_iconst (pc := 55) (w := 0) dX11_few_55 (by decide) ?_
      refine r_istore (pc := 56) (L1 := [(5, .int ((0 : Int32))), (0, .ref x0), (1, .int x1), (2, .int x2), (3, .int x3), (4, .int x4)]) dX11_few_56 (by decide) rfl ?_
      exact T.sub ((w_X11_few_p58 hk88 (w_X11_few_p97 ih) FU) M x0 x1 x2 x3 x4 (0 : Int32) hF) [0] [1, 2, 3, 4, 5, 0] rfl rfl
set_option maxHeartbeats 4000000 in
theorem w_X11_few_p88 {X : Option Cx} {G : EG} {res : Mem × Int32} : ∀ (M : Mem) (x5 : Int32), F_X11_few_p88 M x5 = some res → T X (RI G res) P_X11_few M [] [(5, .int x5)] [] 88 := by
  intro M x5 hF
  unfold F_X11_few_p88 at hF
  refine r_iload (pc := 88) 0 dX11_few_88 rfl ?_
  exact r_iret (pc := 90) dX11_few_90 hF
set_option maxHeartbeats 4000000 in
theorem w_X11_few_p103 {X : Option Cx} {G : EG} {res : Mem × Int32} : ∀ (M : Mem), F_X11_few_p103 M = some res → T X (RI G res) P_X11_few M [] [] [] 103 := by
  intro M hF
  unfold F_X11_few_p103 at hF
  refine r_bipush (pc := 103) (w := -9) dX11_few_103 (by decide) ?_
  exact r_iret (pc := 105) dX11_few_105 hF
set_option maxHeartbeats 4000000 in
theorem w_X11_few {X : Option Cx} {G : EG} {res : Mem × Int32} (M : Mem) (a0 : Nat) (a1 : Int32) (a2 : Int32) (hF : F_X11_few M a0 a1 a2 = some res) : T X (RI G res) P_X11_few M [(a0, 13)] [(0, .ref a0), (1, .int a1), (2, .int a2)] [] 0 := by
  unfold F_X11_few at hF
  refine r_iload_n (pc := 0) 1 dX11_few_0 rfl rfl ?_
  refine r_iconst (pc := 1) (w := 1) dX11_few_1 (by decide) ?_
  refine r_icmp_lt (pc := 2) (tgt := 9) dX11_few_2 rfl hF (fun hF => ?_) (fun hF => ?_)
  · exact T.sub ((w_X11_few_p9) M a0 hF) [0] [0] rfl rfl
  · refine r_iload_n (pc := 5) 2 dX11_few_5 rfl rfl ?_
    refine r_if_ge (pc := 6) (tgt := 16) dX11_few_6 rfl hF (fun hF => ?_) (fun hF => ?_)
    · refine r_iload_n (pc := 16) 1 dX11_few_16 rfl rfl ?_
      refine r_bipush (pc := 17) (w := 100) dX11_few_17 (by decide) ?_
      refine r_icmp_gt (pc := 19) (tgt := 28) dX11_few_19 rfl hF (fun hF => ?_) (fun hF => ?_)
      · exact T.sub ((w_X11_few_p28) M a0 hF) [0] [0] rfl rfl
      · refine r_iload_n (pc := 22) 2 dX11_few_22 rfl rfl ?_
        refine r_ldc (pc := 23) (w := 1000000000) tw_703 dX11_few_23 ?_
        refine r_icmp_le (pc := 25) (tgt := 35) dX11_few_25 rfl hF (fun hF => ?_) (fun hF => ?_)
        · refine r_aload_n (pc := 35) 0 dX11_few_35 rfl rfl ?_
          refine gf_X11_49 (pc := 36) (j := 0) rfl dX11_few_36 ?_
          refine r_lr (by decide) hF (fun b1 hF => ?_)
          refine gf_X11_82 (pc := 39) (j := 0) rfl dX11_few_39 ?_
          refine r_lr (by decide) hF (fun b2 hF => ?_)
          refine r_callV_I (pc := 42) (Py := P_Jx4a65c_size_8abf5) (n := 0) (As := []) (fun q e => k_Jx4a65c_size_8abf5 G _ b2 q e) (c := 0) (Tb := TJx4a65c) (N := 3) rfl (by decide) (j0 := 0) rfl tw_470 tw_344 tw_345 tw_64 tw_346 hd_Jx4a65c_size_8abf5 ⟨Nat.le_of_ble_eq_true rfl, Nat.le_of_ble_eq_true rfl⟩ rfl [0] rfl rfl (Nat.le_of_ble_eq_true rfl) dX11_few_42 hF (fun M3 r4 hF => ?_)
          refine r_istore_n (pc := 45) (L1 := [(3, .int r4), (0, .ref a0), (1, .int a1), (2, .int a2)]) dX11_few_45 rfl (by decide) rfl ?_
          refine r_iconst (pc := 46) (w := 0) dX11_few_46 (by decide) ?_
          refine r_istore (pc := 47) (L1 := [(4, .int ((0 : Int32))), (3, .int r4), (0, .ref a0), (1, .int a1), (2, .int a2)]) dX11_few_47 (by decide) rfl ?_
          exact T.sub ((w_X11_few_p49 (w_X11_few_p88) (w_X11_few_p103) FU) M3 a0 a1 a2 r4 (0 : Int32) hF) [2] [2, 3, 4, 1, 0] rfl rfl
        · exact T.sub ((w_X11_few_p28) M a0 hF) [0] [0] rfl rfl
    · exact T.sub ((w_X11_few_p9) M a0 hF) [0] [0] rfl rfl
theorem k_X11_few (G : EG) (M : Mem) (a0 : Nat) (a1 : Int32) (a2 : Int32) (q : Mem × Int32) (h : F_X11_few M a0 a1 a2 = some q) : Kt yX11_few P_X11_few M [(a0, 13)] [.ref a0, .int a1, .int a2] (RI G q) := Kt.of (by decide +kernel) rfl (Nat.le_of_ble_eq_true rfl) rfl (fun X hz => w_X11_few M a0 a1 a2 h)
set_option maxHeartbeats 4000000 in
theorem w_X1_find_p30 {X : Option Cx} {G : EG} {res : Mem × Option Nat} : ∀ (M : Mem) (y0 : Option Nat), F_X1_find_p30 M y0 = some res → T X (RR G res) P_X1_find M [] [] [va_rf y0] 30 := by
  intro M y0 hF
  unfold F_X1_find_p30 at hF
  exact r_aret (pc := 30) (w := y0) (Or.inl ⟨_, rfl⟩) dX1_find_30 hF
set_option maxHeartbeats 4000000 in
theorem w_X1_find_p15 {X : Option Cx} {G : EG} {res : Mem × Option Nat} : ∀ (M : Mem), F_X1_find_p15 M = some res → T X (RR G res) P_X1_find M [] [] [] 15 := by
  intro M hF
  unfold F_X1_find_p15 at hF
  refine r_null (pc := 15) dX1_find_15 ?_
  refine r_goto (pc := 16) (tgt := 30) dX1_find_16 rfl ?_
  exact T.sub ((w_X1_find_p30) M none hF) [] [] rfl rfl
set_option maxHeartbeats 4000000 in
theorem w_X1_find {X : Option Cx} {G : EG} {res : Mem × Option Nat} (M : Mem) (a0 : Nat) (a1 : Int32) (hF : F_X1_find M a0 a1 = some res) : T X (RR G res) P_X1_find M [(a0, 3)] [(0, .ref a0), (1, .int a1)] [] 0 := by
  unfold F_X1_find at hF
  refine r_iload_n (pc := 0) 1 dX1_find_0 rfl rfl ?_
  refine r_if_lt (pc := 1) (tgt := 15) dX1_find_1 rfl hF (fun hF => ?_) (fun hF => ?_)
  · exact T.sub ((w_X1_find_p15) M hF) [] [] rfl rfl
  · refine r_iload_n (pc := 4) 1 dX1_find_4 rfl rfl ?_
    refine r_aload_n (pc := 5) 0 dX1_find_5 rfl rfl ?_
    refine gf_X1_12 (pc := 6) (j := 0) rfl dX1_find_6 ?_
    refine r_lr (by decide) hF (fun b1 hF => ?_)
    refine r_callV_I (pc := 9) (Py := P_Jx4a65c_size_8abf5) (n := 0) (As := []) (fun q e => k_Jx4a65c_size_8abf5 G _ b1 q e) (c := 0) (Tb := TJx4a65c) (N := 3) rfl (by decide) (j0 := 0) rfl tw_375 tw_344 tw_345 tw_64 tw_346 hd_Jx4a65c_size_8abf5 ⟨Nat.le_of_ble_eq_true rfl, Nat.le_of_ble_eq_true rfl⟩ rfl [0] rfl rfl (Nat.le_of_ble_eq_true rfl) dX1_find_9 hF (fun M2 r3 hF => ?_)
    refine r_icmp_lt (pc := 12) (tgt := 19) dX1_find_12 rfl hF (fun hF => ?_) (fun hF => ?_)
    · refine r_aload_n (pc := 19) 0 dX1_find_19 rfl rfl ?_
      refine gf_X1_12 (pc := 20) (j := 1) rfl dX1_find_20 ?_
      refine r_lr (by decide) hF (fun b4 hF => ?_)
      refine r_iload_n (pc := 23) 1 dX1_find_23 rfl rfl ?_
      refine r_callV_R (pc := 24) (Py := P_Jx4a65c_get_915e3) (n := 1) (As := [.int a1]) (fun q e => k_Jx4a65c_get_915e3 G _ b4 a1 q e) (c := 0) (Tb := TJx4a65c) (N := 3) rfl (by decide) (j0 := 0) rfl tw_376 tw_348 tw_349 tw_64 tw_350 hd_Jx4a65c_get_915e3 ⟨Nat.le_of_ble_eq_true rfl, Nat.le_of_ble_eq_true rfl⟩ rfl [0] rfl rfl (Nat.le_of_ble_eq_true rfl) dX1_find_24 hF (fun M5 r6 hF => ?_)
      refine r_lr (by decide) hF (fun b7 hF => ?_)
      refine r_cast (pc := 27) (c := 1) (Tb := TX0) (N := 11) rfl (by decide) (j := 0) rfl tw_377 dX1_find_27 ?_
      exact T.sub ((w_X1_find_p30) M5 (some b7) hF) [] [] rfl rfl
    · exact T.sub ((w_X1_find_p15) M2 hF) [] [] rfl rfl
theorem k_X1_find (G : EG) (M : Mem) (a0 : Nat) (a1 : Int32) (q : Mem × Option Nat) (h : F_X1_find M a0 a1 = some q) : Kt yX1_find P_X1_find M [(a0, 3)] [.ref a0, .int a1] (RR G q) := Kt.of (by decide +kernel) rfl (Nat.le_of_ble_eq_true rfl) rfl (fun X hz => w_X1_find M a0 a1 h)
set_option maxHeartbeats 4000000 in
theorem w_X11_findRing_p28 {X : Option Cx} {G : EG} {res : Mem × Option Nat} : ∀ (M : Mem), F_X11_findRing_p28 M = some res → T X (RR G res) P_X11_findRing M [] [] [] 28 := by
  intro M hF
  unfold F_X11_findRing_p28 at hF
  refine r_null (pc := 28) dX11_findRing_28 ?_
  exact r_aret (pc := 29) (w := none) (Or.inl ⟨_, rfl⟩) dX11_findRing_29 hF
set_option maxHeartbeats 4000000 in
theorem w_X11_findRing {X : Option Cx} {G : EG} {res : Mem × Option Nat} (M : Mem) (a0 : Nat) (a1 : Int32) (a2 : Int32) (hF : F_X11_findRing M a0 a1 a2 = some res) : T X (RR G res) P_X11_findRing M [(a0, 13)] [(0, .ref a0), (1, .int a1), (2, .int a2)] [] 0 := by
  unfold F_X11_findRing at hF
  refine r_aload_n (pc := 0) 0 dX11_findRing_0 rfl rfl ?_
  refine gf_X11_49 (pc := 1) (j := 0) rfl dX11_findRing_1 ?_
  refine r_lr (by decide) hF (fun b1 hF => ?_)
  refine r_iload_n (pc := 4) 1 dX11_findRing_4 rfl rfl ?_
  refine r_callV_R (pc := 5) (Py := P_X1_find) (n := 1) (As := [.int a1]) (fun q e => k_X1_find G _ b1 a1 q e) (c := 2) (Tb := TX1) (N := 7) rfl (by decide) (j0 := 0) rfl tw_624 tw_625 tw_626 tw_69 tw_627 hd_X1_find ⟨Nat.le_of_ble_eq_true rfl, Nat.le_of_ble_eq_true rfl⟩ rfl [0] rfl rfl (Nat.le_of_ble_eq_true rfl) dX11_findRing_5 hF (fun M2 r3 hF => ?_)
  refine r_astoreo_n (pc := 8) (r := r3) (L1 := [(3, va_rf r3), (0, .ref a0), (1, .int a1), (2, .int a2)]) dX11_findRing_8 rfl (by decide) rfl ?_
  refine r_aloado_n (pc := 9) 0 dX11_findRing_9 rfl rfl ?_
  refine r_ifnull (pc := 10) (tgt := 28) dX11_findRing_10 rfl hF (fun e9 h0 => ?_) (fun b4 e9 h0 => ?_)
  · clear hF
    subst e9
    have hF := h0
    clear h0
    exact T.sub ((w_X11_findRing_p28) M2 hF) [] [] rfl rfl
  · clear hF
    subst e9
    have hF := h0
    clear h0
    refine r_iload_n (pc := 13) 3 dX11_findRing_13 rfl rfl ?_
    refine r_if_lt (pc := 14) (tgt := 28) dX11_findRing_14 rfl hF (fun hF => ?_) (fun hF => ?_)
    · exact T.sub ((w_X11_findRing_p28) M2 hF) [] [] rfl rfl
    · refine r_iload_n (pc := 17) 3 dX11_findRing_17 rfl rfl ?_
      refine r_aload_n (pc := 18) 0 dX11_findRing_18 rfl rfl ?_
      refine r_kind (by decide) hF (fun hF => ?_)
      refine gf_X11_318 (pc := 19) (j := 0) rfl dX11_findRing_19 ?_
      refine r_lr (by decide) hF (fun b5 hF => ?_)
      refine r_callV_I (pc := 22) (Py := P_Jx4a65c_size_8abf5) (n := 0) (As := []) (fun q e => k_Jx4a65c_size_8abf5 G _ b5 q e) (c := 0) (Tb := TJx4a65c) (N := 3) rfl (by decide) (j0 := 0) rfl tw_470 tw_344 tw_345 tw_64 tw_346 hd_Jx4a65c_size_8abf5 ⟨Nat.le_of_ble_eq_true rfl, Nat.le_of_ble_eq_true rfl⟩ rfl [0] rfl rfl (Nat.le_of_ble_eq_true rfl) dX11_findRing_22 hF (fun M6 r7 hF => ?_)
      refine r_icmp_lt (pc := 25) (tgt := 30) dX11_findRing_25 rfl hF (fun hF => ?_) (fun hF => ?_)
      · refine r_aload_n (pc := 30) 0 dX11_findRing_30 rfl rfl ?_
        refine gf_X11_318 (pc := 31) (j := 1) rfl dX11_findRing_31 ?_
        refine r_lr (by decide) hF (fun b8 hF => ?_)
        refine r_iload_n (pc := 34) 3 dX11_findRing_34 rfl rfl ?_
        refine r_callV_R (pc := 35) (Py := P_Jx4a65c_get_915e3) (n := 1) (As := [.int a2]) (fun q e => k_Jx4a65c_get_915e3 G _ b8 a2 q e) (c := 0) (Tb := TJx4a65c) (N := 3) rfl (by decide) (j0 := 0) rfl tw_644 tw_348 tw_349 tw_64 tw_350 hd_Jx4a65c_get_915e3 ⟨Nat.le_of_ble_eq_true rfl, Nat.le_of_ble_eq_true rfl⟩ rfl [0] rfl rfl (Nat.le_of_ble_eq_true rfl) dX11_findRing_35 hF (fun M9 r10 hF => ?_)
        refine r_lr (by decide) hF (fun b11 hF => ?_)
        refine r_cast (pc := 38) (c := 5) (Tb := TX4) (N := 5) rfl (by decide) (j := 0) rfl tw_645 dX11_findRing_38 ?_
        exact r_aret (pc := 41) (w := some b11) (Or.inl ⟨_, rfl⟩) dX11_findRing_41 hF
      · exact T.sub ((w_X11_findRing_p28) M6 hF) [] [] rfl rfl
theorem k_X11_findRing (G : EG) (M : Mem) (a0 : Nat) (a1 : Int32) (a2 : Int32) (q : Mem × Option Nat) (h : F_X11_findRing M a0 a1 a2 = some q) : Kt yX11_findRing P_X11_findRing M [(a0, 13)] [.ref a0, .int a1, .int a2] (RR G q) := Kt.of (by decide +kernel) rfl (Nat.le_of_ble_eq_true rfl) rfl (fun X hz => w_X11_findRing M a0 a1 a2 h)
set_option maxHeartbeats 4000000 in
theorem w_X11_frozen_p31 {X : Option Cx} {G : EG} {res : Mem × Int32} : ∀ (M : Mem) (y0 : Int32), F_X11_frozen_p31 M y0 = some res → T X (RI G res) P_X11_frozen M [] [] [.int y0] 31 := by
  intro M y0 hF
  unfold F_X11_frozen_p31 at hF
  exact r_iret (pc := 31) dX11_frozen_31 hF
set_option maxHeartbeats 4000000 in
theorem w_X11_frozen {X : Option Cx} {G : EG} {res : Mem × Int32} (M : Mem) (a0 : Nat) (a1 : Int32) (hF : F_X11_frozen M a0 a1 = some res) : T X (RI G res) P_X11_frozen M [(a0, 13)] [(0, .ref a0), (1, .int a1)] [] 0 := by
  unfold F_X11_frozen at hF
  refine r_aload_n (pc := 0) 0 dX11_frozen_0 rfl rfl ?_
  refine gf_X11_49 (pc := 1) (j := 0) rfl dX11_frozen_1 ?_
  refine r_lr (by decide) hF (fun b1 hF => ?_)
  refine r_iload_n (pc := 4) 1 dX11_frozen_4 rfl rfl ?_
  refine r_callV_R (pc := 5) (Py := P_X1_find) (n := 1) (As := [.int a1]) (fun q e => k_X1_find G _ b1 a1 q e) (c := 2) (Tb := TX1) (N := 7) rfl (by decide) (j0 := 0) rfl tw_624 tw_625 tw_626 tw_69 tw_627 hd_X1_find ⟨Nat.le_of_ble_eq_true rfl, Nat.le_of_ble_eq_true rfl⟩ rfl [0] rfl rfl (Nat.le_of_ble_eq_true rfl) dX11_frozen_5 hF (fun M2 r3 hF => ?_)
  refine r_astoreo_n (pc := 8) (r := r3) (L1 := [(2, va_rf r3), (0, .ref a0), (1, .int a1)]) dX11_frozen_8 rfl (by decide) rfl ?_
  refine r_aloado_n (pc := 9) 0 dX11_frozen_9 rfl rfl ?_
  refine r_ifnonnull (pc := 10) (tgt := 19) dX11_frozen_10 rfl hF (fun e9 h0 => ?_) (fun b4 e9 h0 => ?_)
  · clear hF
    subst e9
    have hF := h0
    clear h0
    refine r_aload_n (pc := 13) 1 dX11_frozen_13 rfl rfl ?_
    refine r_iconst (pc := 14) (w := -1) dX11_frozen_14 (by decide) ?_
    refine r_callV_I (pc := 15) (Py := P_X11_refuse) (n := 1) (As := [.int ((-1 : Int32))]) (fun q e => k_X11_refuse G _ a0 (-1 : Int32) q e) (c := 12) (Tb := TX11) (N := 11) rfl (by decide) (j0 := 1) rfl tw_322 tw_324 tw_0 tw_60 tw_325 hd_X11_refuse ⟨Nat.le_of_ble_eq_true rfl, Nat.le_of_ble_eq_true rfl⟩ rfl [1] rfl rfl (Nat.le_of_ble_eq_true rfl) dX11_frozen_15 hF (fun M5 r6 hF => ?_)
    exact r_iret (pc := 18) dX11_frozen_18 hF
  · clear hF
    subst e9
    have hF := h0
    clear h0
    refine r_aload_n (pc := 19) 0 dX11_frozen_19 rfl rfl ?_
    refine r_kind (by decide) hF (fun hF => ?_)
    refine r_callV_I (pc := 20) (Py := P_X0_isFrozen) (n := 0) (As := []) (fun q e => k_X0_isFrozen G _ b4 q e) (c := 1) (Tb := TX0) (N := 11) rfl (by decide) (j0 := 0) rfl tw_659 tw_441 tw_442 tw_74 tw_443 hd_X0_isFrozen ⟨Nat.le_of_ble_eq_true rfl, Nat.le_of_ble_eq_true rfl⟩ rfl [0] rfl rfl (Nat.le_of_ble_eq_true rfl) dX11_frozen_20 hF (fun M7 r8 hF => ?_)
    refine r_if_eq (pc := 23) (tgt := 30) dX11_frozen_23 rfl hF (fun hF => ?_) (fun hF => ?_)
    · refine r_iconst (pc := 30) (w := 0) dX11_frozen_30 (by decide) ?_
      exact T.sub ((w_X11_frozen_p31) M7 (0 : Int32) hF) [] [] rfl rfl
    · refine r_iconst (pc := 26) (w := 1) dX11_frozen_26 (by decide) ?_
      refine r_goto (pc := 27) (tgt := 31) dX11_frozen_27 rfl ?_
      exact T.sub ((w_X11_frozen_p31) M7 (1 : Int32) hF) [] [] rfl rfl
theorem k_X11_frozen (G : EG) (M : Mem) (a0 : Nat) (a1 : Int32) (q : Mem × Int32) (h : F_X11_frozen M a0 a1 = some q) : Kt yX11_frozen P_X11_frozen M [(a0, 13)] [.ref a0, .int a1] (RI G q) := Kt.of (by decide +kernel) rfl (Nat.le_of_ble_eq_true rfl) rfl (fun X hz => w_X11_frozen M a0 a1 h)
set_option maxHeartbeats 4000000 in
theorem w_X11_given_p25 {X : Option Cx} {G : EG} {res : Mem × Int64} : ∀ (M : Mem) (y0 : Int64), F_X11_given_p25 M y0 = some res → T X (RJ G res) P_X11_given M [] [] [.long y0] 25 := by
  intro M y0 hF
  unfold F_X11_given_p25 at hF
  exact r_lret (pc := 25) dX11_given_25 hF
set_option maxHeartbeats 4000000 in
theorem w_X11_given {X : Option Cx} {G : EG} {res : Mem × Int64} (M : Mem) (a0 : Nat) (a1 : Int32) (hF : F_X11_given M a0 a1 = some res) : T X (RJ G res) P_X11_given M [(a0, 13)] [(0, .ref a0), (1, .int a1)] [] 0 := by
  unfold F_X11_given at hF
  refine r_aload_n (pc := 0) 0 dX11_given_0 rfl rfl ?_
  refine gf_X11_49 (pc := 1) (j := 0) rfl dX11_given_1 ?_
  refine r_lr (by decide) hF (fun b1 hF => ?_)
  refine r_iload_n (pc := 4) 1 dX11_given_4 rfl rfl ?_
  refine r_callV_R (pc := 5) (Py := P_X1_find) (n := 1) (As := [.int a1]) (fun q e => k_X1_find G _ b1 a1 q e) (c := 2) (Tb := TX1) (N := 7) rfl (by decide) (j0 := 0) rfl tw_624 tw_625 tw_626 tw_69 tw_627 hd_X1_find ⟨Nat.le_of_ble_eq_true rfl, Nat.le_of_ble_eq_true rfl⟩ rfl [0] rfl rfl (Nat.le_of_ble_eq_true rfl) dX11_given_5 hF (fun M2 r3 hF => ?_)
  refine r_astoreo_n (pc := 8) (r := r3) (L1 := [(2, va_rf r3), (0, .ref a0), (1, .int a1)]) dX11_given_8 rfl (by decide) rfl ?_
  refine r_aloado_n (pc := 9) 0 dX11_given_9 rfl rfl ?_
  refine r_ifnonnull (pc := 10) (tgt := 21) dX11_given_10 rfl hF (fun e9 h0 => ?_) (fun b4 e9 h0 => ?_)
  · clear hF
    subst e9
    have hF := h0
    clear h0
    refine r_aload_n (pc := 13) 1 dX11_given_13 rfl rfl ?_
    refine r_iconst (pc := 14) (w := -1) dX11_given_14 (by decide) ?_
    refine r_callV_J (pc := 15) (Py := P_X11_refuseLong) (n := 1) (As := [.int ((-1 : Int32))]) (fun q e => k_X11_refuseLong G _ a0 (-1 : Int32) q e) (c := 12) (Tb := TX11) (N := 11) rfl (by decide) (j0 := 1) rfl tw_646 tw_648 tw_10 tw_60 tw_649 hd_X11_refuseLong ⟨Nat.le_of_ble_eq_true rfl, Nat.le_of_ble_eq_true rfl⟩ rfl [1] rfl rfl (Nat.le_of_ble_eq_true rfl) dX11_given_15 hF (fun M5 r6 hF => ?_)
    refine r_goto (pc := 18) (tgt := 25) dX11_given_18 rfl ?_
    exact T.sub ((w_X11_given_p25) M5 r6 hF) [] [] rfl rfl
  · clear hF
    subst e9
    have hF := h0
    clear h0
    refine r_aload_n (pc := 21) 0 dX11_given_21 rfl rfl ?_
    refine r_kind (by decide) hF (fun hF => ?_)
    refine gf_X11_239 (pc := 22) (j := 0) rfl dX11_given_22 ?_
    exact T.sub ((w_X11_given_p25) M2 (gJ M2 110 b4) hF) [] [] rfl rfl
theorem k_X11_given (G : EG) (M : Mem) (a0 : Nat) (a1 : Int32) (q : Mem × Int64) (h : F_X11_given M a0 a1 = some q) : Kt yX11_given P_X11_given M [(a0, 13)] [.ref a0, .int a1] (RJ G q) := Kt.of (by decide +kernel) rfl (Nat.le_of_ble_eq_true rfl) rfl (fun X hz => w_X11_given M a0 a1 h)
set_option maxHeartbeats 4000000 in
theorem w_X11_givenInMind_p22 {X : Option Cx} {G : EG} {res : Mem × Int64} {k41 : Mem → Nat → Int32 → Option (Mem × Int64)} (hk41 : ∀ (M : Mem) (x0 : Nat) (x1 : Int32), k41 M x0 x1 = some res → T X (RJ G res) P_X11_givenInMind M [(x0, 13)] [(0, .ref x0), (1, .int x1)] [] 41) : ∀ (n : Nat) (M : Mem) (x0 : Nat) (x1 : Int32) (x3 : Int32) (x4 : Int32), F_X11_givenInMind_p22 k41 n M x0 x1 x3 x4 = some res → T X (RJ G res) P_X11_givenInMind M [(x0, 13)] [(0, .ref x0), (1, .int x1), (3, .int x3), (4, .int x4)] [] 22 := by
  intro n
  induction n with
  | zero =>
    intro M x0 x1 x3 x4 hF
    cases hF
  | succ n ih =>
    intro M x0 x1 x3 x4 hF
    unfold F_X11_givenInMind_p22 at hF
    refine r_iload (pc := 22) 3 dX11_givenInMind_22 rfl ?_
    refine r_iload_n (pc := 24) 2 dX11_givenInMind_24 rfl rfl ?_
    refine r_icmp_ge (pc := 25) (tgt := 41) dX11_givenInMind_25 rfl hF (fun hF => ?_) (fun hF => ?_)
    · exact T.sub (hk41 M x0 x1 hF) [0] [0, 1] rfl rfl
    · refine r_aload_n (pc := 28) 0 dX11_givenInMind_28 rfl rfl ?_
      refine gf_X11_53 (pc := 29) (j := 0) rfl dX11_givenInMind_29 ?_
      refine r_lr (by decide) hF (fun b1 hF => ?_)
      refine r_callV_V (pc := 32) (Py := P_X1_pass) (n := 0) (As := []) (fun q e => k_X1_pass G _ b1 q e) (c := 2) (Tb := TX1) (N := 7) rfl (by decide) (j0 := 0) rfl tw_326 tw_327 tw_328 tw_69 tw_329 hd_X1_pass ⟨Nat.le_of_ble_eq_true rfl, Nat.le_of_ble_eq_true rfl⟩ rfl [0] rfl rfl (Nat.le_of_ble_eq_true rfl) dX11_givenInMind_32 hF (fun M2 r3 hF => ?_)
      obtain ⟨v4, e9, hF⟩ := bnd_e hF
      refine r_iinc (pc := 35) (w := v4) (k := 3) (L1 := [(4, .int v4), (0, .ref x0), (1, .int x1), (3, .int x3)]) dX11_givenInMind_35 rfl (by rw [e9]; rfl) (by decide) rfl ?_
      clear e9
      refine r_goto (pc := 38) (tgt := 22) dX11_givenInMind_38 rfl ?_
      exact T.sub (ih M2 x0 x1 x3 v4 hF) [1] [1, 2, 3, 0] rfl rfl
set_option maxHeartbeats 4000000 in
theorem w_X11_givenInMind_p65 {X : Option Cx} {G : EG} {res : Mem × Int64} : ∀ (M : Mem) (y0 : Int64), F_X11_givenInMind_p65 M y0 = some res → T X (RJ G res) P_X11_givenInMind M [] [] [.long y0] 65 := by
  intro M y0 hF
  unfold F_X11_givenInMind_p65 at hF
  exact r_lret (pc := 65) dX11_givenInMind_65 hF
set_option maxHeartbeats 4000000 in
theorem w_X11_givenInMind_p41 {X : Option Cx} {G : EG} {res : Mem × Int64} : ∀ (M : Mem) (x0 : Nat) (x1 : Int32), F_X11_givenInMind_p41 M x0 x1 = some res → T X (RJ G res) P_X11_givenInMind M [(x0, 13)] [(0, .ref x0), (1, .int x1)] [] 41 := by
  intro M x0 x1 hF
  unfold F_X11_givenInMind_p41 at hF
  refine r_aload_n (pc := 41) 0 dX11_givenInMind_41 rfl rfl ?_
  refine gf_X11_53 (pc := 42) (j := 0) rfl dX11_givenInMind_42 ?_
  refine r_lr (by decide) hF (fun b1 hF => ?_)
  refine r_iload_n (pc := 45) 1 dX11_givenInMind_45 rfl rfl ?_
  refine r_callV_R (pc := 46) (Py := P_X1_find) (n := 1) (As := [.int x1]) (fun q e => k_X1_find G _ b1 x1 q e) (c := 2) (Tb := TX1) (N := 7) rfl (by decide) (j0 := 0) rfl tw_624 tw_625 tw_626 tw_69 tw_627 hd_X1_find ⟨Nat.le_of_ble_eq_true rfl, Nat.le_of_ble_eq_true rfl⟩ rfl [0] rfl rfl (Nat.le_of_ble_eq_true rfl) dX11_givenInMind_46 hF (fun M2 r3 hF => ?_)
  refine r_astoreo (pc := 49) (r := r3) (L1 := [(4, va_rf r3), (0, .ref x0), (1, .int x1)]) dX11_givenInMind_49 (by decide) rfl ?_
  refine r_aloado (pc := 51) 0 dX11_givenInMind_51 rfl ?_
  refine r_ifnonnull (pc := 53) (tgt := 60) dX11_givenInMind_53 rfl hF (fun e9 h0 => ?_) (fun b4 e9 h0 => ?_)
  · clear hF
    subst e9
    have hF := h0
    clear h0
    refine r_lconst (pc := 56) (w := 0) dX11_givenInMind_56 (by decide) ?_
    refine r_goto (pc := 57) (tgt := 65) dX11_givenInMind_57 rfl ?_
    exact T.sub ((w_X11_givenInMind_p65) M2 (0 : Int64) hF) [] [] rfl rfl
  · clear hF
    subst e9
    have hF := h0
    clear h0
    refine r_aload (pc := 60) 0 dX11_givenInMind_60 rfl ?_
    refine r_kind (by decide) hF (fun hF => ?_)
    refine gf_X11_239 (pc := 62) (j := 0) rfl dX11_givenInMind_62 ?_
    exact T.sub ((w_X11_givenInMind_p65) M2 (gJ M2 110 b4) hF) [] [] rfl rfl
set_option maxHeartbeats 4000000 in
theorem w_X11_givenInMind {X : Option Cx} {G : EG} {res : Mem × Int64} (M : Mem) (a0 : Nat) (a1 : Int32) (a2 : Int32) (a3 : Int32) (hF : F_X11_givenInMind M a0 a1 a2 a3 = some res) : T X (RJ G res) P_X11_givenInMind M [(a0, 13)] [(0, .ref a0), (1, .int a1), (2, .int a2), (3, .int a3)] [] 0 := by
  unfold F_X11_givenInMind at hF
  refine r_aload_n (pc := 0) 0 dX11_givenInMind_0 rfl rfl ?_
  refine gf_X11_53 (pc := 1) (j := 0) rfl dX11_givenInMind_1 ?_
  refine r_lr (by decide) hF (fun b1 hF => ?_)
  refine r_aload_n (pc := 4) 0 dX11_givenInMind_4 rfl rfl ?_
  refine gf_X11_49 (pc := 5) (j := 1) rfl dX11_givenInMind_5 ?_
  refine r_lr (by decide) hF (fun b2 hF => ?_)
  refine r_callV_V (pc := 8) (Py := P_X1_follow) (n := 1) (As := [.ref b2]) (fun q e => k_X1_follow G _ b1 b2 q e) (c := 2) (Tb := TX1) (N := 7) rfl (by decide) (j0 := 1) rfl tw_952 tw_953 tw_954 tw_69 tw_955 hd_X1_follow ⟨Nat.le_of_ble_eq_true rfl, Nat.le_of_ble_eq_true rfl⟩ rfl [1, 0] rfl rfl (Nat.le_of_ble_eq_true rfl) dX11_givenInMind_8 hF (fun M3 r4 hF => ?_)
  refine r_aload_n (pc := 11) 0 dX11_givenInMind_11 rfl rfl ?_
  refine gf_X11_53 (pc := 12) (j := 2) rfl dX11_givenInMind_12 ?_
  refine r_lr (by decide) hF (fun b5 hF => ?_)
  refine r_iload_n (pc := 15) 2 dX11_givenInMind_15 rfl rfl ?_
  refine r_callV_V (pc := 16) (Py := P_X1_shut) (n := 1) (As := [.int a2]) (fun q e => k_X1_shut G _ b5 a2 q e) (c := 2) (Tb := TX1) (N := 7) rfl (by decide) (j0 := 0) rfl tw_964 tw_965 tw_966 tw_69 tw_967 hd_X1_shut ⟨Nat.le_of_ble_eq_true rfl, Nat.le_of_ble_eq_true rfl⟩ rfl [0] rfl rfl (Nat.le_of_ble_eq_true rfl) dX11_givenInMind_16 hF (fun M6 r7 hF => ?_)
  refine r_iconst (pc := 19) (w := 0) dX11_givenInMind_19 (by decide) ?_
  refine r_istore (pc := 20) (L1 := [(4, .int ((0 : Int32))), (0, .ref a0), (1, .int a1), (2, .int a2), (3, .int a3)]) dX11_givenInMind_20 (by decide) rfl ?_
  exact T.sub ((w_X11_givenInMind_p22 (w_X11_givenInMind_p41) FU) M6 a0 a1 a3 (0 : Int32) hF) [3] [1, 2, 4, 0] rfl rfl
theorem k_X11_givenInMind (G : EG) (M : Mem) (a0 : Nat) (a1 : Int32) (a2 : Int32) (a3 : Int32) (q : Mem × Int64) (h : F_X11_givenInMind M a0 a1 a2 a3 = some q) : Kt yX11_givenInMind P_X11_givenInMind M [(a0, 13)] [.ref a0, .int a1, .int a2, .int a3] (RJ G q) := Kt.of (by decide +kernel) rfl (Nat.le_of_ble_eq_true rfl) rfl (fun X hz => w_X11_givenInMind M a0 a1 a2 a3 h)
set_option maxHeartbeats 4000000 in
theorem w_X11_heat_p23 {X : Option Cx} {G : EG} {res : Mem × Int64} : ∀ (M : Mem) (y0 : Int64), F_X11_heat_p23 M y0 = some res → T X (RJ G res) P_X11_heat M [] [] [.long y0] 23 := by
  intro M y0 hF
  unfold F_X11_heat_p23 at hF
  exact r_lret (pc := 23) dX11_heat_23 hF
set_option maxHeartbeats 4000000 in
theorem w_X11_heat {X : Option Cx} {G : EG} {res : Mem × Int64} (M : Mem) (a0 : Nat) (a1 : Int32) (a2 : Int32) (hF : F_X11_heat M a0 a1 a2 = some res) : T X (RJ G res) P_X11_heat M [(a0, 13)] [(0, .ref a0), (1, .int a1), (2, .int a2)] [] 0 := by
  unfold F_X11_heat at hF
  refine r_aload_n (pc := 0) 0 dX11_heat_0 rfl rfl ?_
  refine r_iload_n (pc := 1) 1 dX11_heat_1 rfl rfl ?_
  refine r_iload_n (pc := 2) 2 dX11_heat_2 rfl rfl ?_
  refine r_callV_R (pc := 3) (Py := P_X11_findRing) (n := 2) (As := [.int a1, .int a2]) (fun q e => k_X11_findRing G _ a0 a1 a2 q e) (c := 12) (Tb := TX11) (N := 11) rfl (by decide) (j0 := 0) rfl tw_640 tw_642 tw_9 tw_60 tw_643 hd_X11_findRing ⟨Nat.le_of_ble_eq_true rfl, Nat.le_of_ble_eq_true rfl⟩ rfl [0] rfl rfl (Nat.le_of_ble_eq_true rfl) dX11_heat_3 hF (fun M1 r2 hF => ?_)
  refine r_astoreo_n (pc := 6) (r := r2) (L1 := [(3, va_rf r2), (0, .ref a0), (1, .int a1), (2, .int a2)]) dX11_heat_6 rfl (by decide) rfl ?_
  refine r_aloado_n (pc := 7) 0 dX11_heat_7 rfl rfl ?_
  refine r_ifnonnull (pc := 8) (tgt := 19) dX11_heat_8 rfl hF (fun e9 h0 => ?_) (fun b3 e9 h0 => ?_)
  · clear hF
    subst e9
    have hF := h0
    clear h0
    refine r_aload_n (pc := 11) 1 dX11_heat_11 rfl rfl ?_
    refine r_iconst (pc := 12) (w := -1) dX11_heat_12 (by decide) ?_
    refine r_callV_J (pc := 13) (Py := P_X11_refuseLong) (n := 1) (As := [.int ((-1 : Int32))]) (fun q e => k_X11_refuseLong G _ a0 (-1 : Int32) q e) (c := 12) (Tb := TX11) (N := 11) rfl (by decide) (j0 := 0) rfl tw_646 tw_648 tw_10 tw_60 tw_649 hd_X11_refuseLong ⟨Nat.le_of_ble_eq_true rfl, Nat.le_of_ble_eq_true rfl⟩ rfl [0] rfl rfl (Nat.le_of_ble_eq_true rfl) dX11_heat_13 hF (fun M4 r5 hF => ?_)
    refine r_goto (pc := 16) (tgt := 23) dX11_heat_16 rfl ?_
    exact T.sub ((w_X11_heat_p23) M4 r5 hF) [] [] rfl rfl
  · clear hF
    subst e9
    have hF := h0
    clear h0
    refine r_aload_n (pc := 19) 0 dX11_heat_19 rfl rfl ?_
    refine r_kind (by decide) hF (fun hF => ?_)
    refine gf_X11_123 (pc := 20) (j := 0) rfl dX11_heat_20 ?_
    exact T.sub ((w_X11_heat_p23) M1 (gJ M1 502 b3) hF) [] [] rfl rfl
theorem k_X11_heat (G : EG) (M : Mem) (a0 : Nat) (a1 : Int32) (a2 : Int32) (q : Mem × Int64) (h : F_X11_heat M a0 a1 a2 = some q) : Kt yX11_heat P_X11_heat M [(a0, 13)] [.ref a0, .int a1, .int a2] (RJ G q) := Kt.of (by decide +kernel) rfl (Nat.le_of_ble_eq_true rfl) rfl (fun X hz => w_X11_heat M a0 a1 a2 h)
set_option maxHeartbeats 4000000 in
theorem w_X11_hours_p29 {X : Option Cx} {G : EG} {res : Mem × Int32} {k47 : Mem → Nat → Option (Mem × Int32)} (hk47 : ∀ (M : Mem) (x0 : Nat), k47 M x0 = some res → T X (RI G res) P_X11_hours M [(x0, 13)] [(0, .ref x0)] [] 47) : ∀ (n : Nat) (M : Mem) (x0 : Nat) (x1 : Int32) (x3 : Int32), F_X11_hours_p29 k47 n M x0 x1 x3 = some res → T X (RI G res) P_X11_hours M [(x0, 13)] [(0, .ref x0), (1, .int x1), (3, .int x3)] [] 29 := by
  intro n
  induction n with
  | zero =>
    intro M x0 x1 x3 hF
    cases hF
  | succ n ih =>
    intro M x0 x1 x3 hF
    unfold F_X11_hours_p29 at hF
    refine r_iload_n (pc := 29) 2 dX11_hours_29 rfl rfl ?_
    refine r_iload_n (pc := 30) 1 dX11_hours_30 rfl rfl ?_
    refine r_icmp_ge (pc := 31) (tgt := 47) dX11_hours_31 rfl hF (fun hF => ?_) (fun hF => ?_)
    · exact T.sub (hk47 M x0 hF) [0] [0] rfl rfl
    · refine r_aload_n (pc := 34) 0 dX11_hours_34 rfl rfl ?_
      refine gf_X11_49 (pc := 35) (j := 0) rfl dX11_hours_35 ?_
      refine r_lr (by decide) hF (fun b1 hF => ?_)
      refine r_callV_V (pc := 38) (Py := P_X1_pass) (n := 0) (As := []) (fun q e => k_X1_pass G _ b1 q e) (c := 2) (Tb := TX1) (N := 7) rfl (by decide) (j0 := 0) rfl tw_326 tw_327 tw_328 tw_69 tw_329 hd_X1_pass ⟨Nat.le_of_ble_eq_true rfl, Nat.le_of_ble_eq_true rfl⟩ rfl [0] rfl rfl (Nat.le_of_ble_eq_true rfl) dX11_hours_38 hF (fun M2 r3 hF => ?_)
      obtain ⟨v4, e9, hF⟩ := bnd_e hF
      refine r_iinc (pc := 41) (w := v4) (k := 2) (L1 := [(3, .int v4), (0, .ref x0), (1, .int x1)]) dX11_hours_41 rfl (by rw [e9]; rfl) (by decide) rfl ?_
      clear e9
      refine r_goto (pc := 44) (tgt := 29) dX11_hours_44 rfl ?_
      exact T.sub (ih M2 x0 x1 v4 hF) [1] [1, 2, 0] rfl rfl
set_option maxHeartbeats 4000000 in
theorem w_X11_hours_p47 {X : Option Cx} {G : EG} {res : Mem × Int32} : ∀ (M : Mem) (x0 : Nat), F_X11_hours_p47 M x0 = some res → T X (RI G res) P_X11_hours M [(x0, 13)] [(0, .ref x0)] [] 47 := by
  intro M x0 hF
  unfold F_X11_hours_p47 at hF
  refine r_aload_n (pc := 47) 0 dX11_hours_47 rfl rfl ?_
  refine gf_X11_49 (pc := 48) (j := 0) rfl dX11_hours_48 ?_
  refine r_lr (by decide) hF (fun b1 hF => ?_)
  refine gf_X11_67 (pc := 51) (j := 0) rfl dX11_hours_51 ?_
  exact r_iret (pc := 54) dX11_hours_54 hF
set_option maxHeartbeats 4000000 in
theorem w_X11_hours {X : Option Cx} {G : EG} {res : Mem × Int32} (M : Mem) (a0 : Nat) (a1 : Int32) (hF : F_X11_hours M a0 a1 = some res) : T X (RI G res) P_X11_hours M [(a0, 13)] [(0, .ref a0), (1, .int a1)] [] 0 := by
  unfold F_X11_hours at hF
  refine r_iload_n (pc := 0) 1 dX11_hours_0 rfl rfl ?_
  refine r_iconst (pc := 1) (w := 1) dX11_hours_1 (by decide) ?_
  refine r_sipush (pc := 2) (w := 8000) dX11_hours_2 (by decide) ?_
  refine r_aload_n (pc := 5) 0 dX11_hours_5 rfl rfl ?_
  refine gf_X11_49 (pc := 6) (j := 0) rfl dX11_hours_6 ?_
  refine r_lr (by decide) hF (fun b1 hF => ?_)
  refine gf_X11_67 (pc := 9) (j := 0) rfl dX11_hours_9 ?_
  refine r_isub (pc := 12) dX11_hours_12 ?_
  refine r_callS_I (pc := 13) (Py := P_X11_beyond) (n := 3) (As := [.int a1, .int ((1 : Int32)), .int ((8000 : Int32) - (gI M 206 b1))]) (fun q e => k_X11_beyond G _ a1 (1 : Int32) ((8000 : Int32) - (gI M 206 b1)) q e) tw_319 tw_320 tw_60 tw_321 hd_X11_beyond ⟨Nat.le_of_ble_eq_true rfl, Nat.le_of_ble_eq_true rfl⟩ rfl [] rfl rfl (Nat.le_of_ble_eq_true rfl) dX11_hours_13 hF (fun M2 r3 hF => ?_)
  refine r_istore_n (pc := 16) (L1 := [(2, .int r3), (0, .ref a0), (1, .int a1)]) dX11_hours_16 rfl (by decide) rfl ?_
  refine r_iload_n (pc := 17) 0 dX11_hours_17 rfl rfl ?_
  refine r_if_eq (pc := 18) (tgt := 27) dX11_hours_18 rfl hF (fun hF => ?_) (fun hF => ?_)
  · refine r_iconst (pc := 27) (w := 0) dX11_hours_27 (by decide) ?_
    refine r_istore_n (pc := 28) (L1 := [(3, .int ((0 : Int32))), (2, .int r3), (0, .ref a0), (1, .int a1)]) dX11_hours_28 rfl (by decide) rfl ?_
    exact T.sub ((w_X11_hours_p29 (w_X11_hours_p47) FU) M2 a0 a1 (0 : Int32) hF) [1] [2, 3, 0] rfl rfl
  · refine r_aload_n (pc := 21) 1 dX11_hours_21 rfl rfl ?_
    refine r_iload_n (pc := 22) 0 dX11_hours_22 rfl rfl ?_
    refine r_callV_I (pc := 23) (Py := P_X11_refuse) (n := 1) (As := [.int r3]) (fun q e => k_X11_refuse G _ a0 r3 q e) (c := 12) (Tb := TX11) (N := 11) rfl (by decide) (j0 := 1) rfl tw_322 tw_324 tw_0 tw_60 tw_325 hd_X11_refuse ⟨Nat.le_of_ble_eq_true rfl, Nat.le_of_ble_eq_true rfl⟩ rfl [1] rfl rfl (Nat.le_of_ble_eq_true rfl) dX11_hours_23 hF (fun M4 r5 hF => ?_)
    exact r_iret (pc := 26) dX11_hours_26 hF
theorem k_X11_hours (G : EG) (M : Mem) (a0 : Nat) (a1 : Int32) (q : Mem × Int32) (h : F_X11_hours M a0 a1 = some q) : Kt yX11_hours P_X11_hours M [(a0, 13)] [.ref a0, .int a1] (RI G q) := Kt.of (by decide +kernel) rfl (Nat.le_of_ble_eq_true rfl) rfl (fun X hz => w_X11_hours M a0 a1 h)
set_option maxHeartbeats 4000000 in
theorem w_X2_init {X : Option Cx} {G : EG} {res : Mem × Unit} (hzi : ∀ x, X = some x → Zi x) (M : Mem) (a0 : Nat) (a1 : Int32) (a2 : Int32) (a3 : Int32) (hF : F_X2_init M a0 a1 a2 a3 = some res) : T X (RV G res) P_X2_init M [(a0, 4)] [(0, .ref a0), (1, .int a1), (2, .int a2), (3, .int a3)] [] 0 := by
  unfold F_X2_init at hF
  refine r_aload_n (pc := 0) 0 dX2_init_0 rfl rfl ?_
  refine r_objInit (pc := 1) tw_670 tw_93 tw_94 ⟨Nat.le_of_ble_eq_true rfl, Nat.le_of_ble_eq_true rfl⟩ (Nat.le_of_ble_eq_true rfl) dX2_init_1 ?_
  refine r_aload_n (pc := 4) 0 dX2_init_4 rfl rfl ?_
  refine r_iload_n (pc := 5) 1 dX2_init_5 rfl rfl ?_
  refine pf_X2_7 (pc := 6) hzi (j := 0) rfl dX2_init_6 hF (fun M1 hF => ?_)
  refine r_aload_n (pc := 9) 0 dX2_init_9 rfl rfl ?_
  refine r_iload_n (pc := 10) 2 dX2_init_10 rfl rfl ?_
  refine pf_X2_13 (pc := 11) hzi (j := 0) rfl dX2_init_11 hF (fun M2 hF => ?_)
  refine r_aload_n (pc := 14) 0 dX2_init_14 rfl rfl ?_
  refine r_iload_n (pc := 15) 3 dX2_init_15 rfl rfl ?_
  refine pf_X2_16 (pc := 16) hzi (j := 0) rfl dX2_init_16 hF (fun M3 hF => ?_)
  exact r_vret (pc := 19) dX2_init_19 hF
theorem k_X2_init (G : EG) (M : Mem) (a0 : Nat) (a1 : Int32) (a2 : Int32) (a3 : Int32) (q : Mem × Unit) (h : F_X2_init M a0 a1 a2 a3 = some q) : Kt yX2_init P_X2_init M [(a0, 4)] [.ref a0, .int a1, .int a2, .int a3] (RV G q) := Kt.of (by decide +kernel) rfl (Nat.le_of_ble_eq_true rfl) rfl (fun X hz => w_X2_init (fun x hx => hz x hx rfl) M a0 a1 a2 a3 h)
set_option maxHeartbeats 4000000 in
theorem w_X11_house_p12 {X : Option Cx} {G : EG} {res : Mem × Int32} : ∀ (M : Mem) (x0 : Nat), F_X11_house_p12 M x0 = some res → T X (RI G res) P_X11_house M [(x0, 13)] [(0, .ref x0)] [] 12 := by
  intro M x0 hF
  unfold F_X11_house_p12 at hF
  refine r_aload_n (pc := 12) 0 dX11_house_12 rfl rfl ?_
  refine r_bipush (pc := 13) (w := -4) dX11_house_13 (by decide) ?_
  refine r_callV_I (pc := 15) (Py := P_X11_refuse) (n := 1) (As := [.int ((-4 : Int32))]) (fun q e => k_X11_refuse G _ x0 (-4 : Int32) q e) (c := 12) (Tb := TX11) (N := 11) rfl (by decide) (j0 := 0) rfl tw_322 tw_324 tw_0 tw_60 tw_325 hd_X11_refuse ⟨Nat.le_of_ble_eq_true rfl, Nat.le_of_ble_eq_true rfl⟩ rfl [0] rfl rfl (Nat.le_of_ble_eq_true rfl) dX11_house_15 hF (fun M1 r2 hF => ?_)
  exact r_iret (pc := 18) dX11_house_18 hF
set_option maxHeartbeats 4000000 in
theorem w_X11_house_p58 {X : Option Cx} {G : EG} {res : Mem × Int32} : ∀ (M : Mem) (x0 : Nat), F_X11_house_p58 M x0 = some res → T X (RI G res) P_X11_house M [(x0, 13)] [(0, .ref x0)] [] 58 := by
  intro M x0 hF
  unfold F_X11_house_p58 at hF
  refine r_aload_n (pc := 58) 0 dX11_house_58 rfl rfl ?_
  refine r_bipush (pc := 59) (w := -6) dX11_house_59 (by decide) ?_
  refine r_callV_I (pc := 61) (Py := P_X11_refuse) (n := 1) (As := [.int ((-6 : Int32))]) (fun q e => k_X11_refuse G _ x0 (-6 : Int32) q e) (c := 12) (Tb := TX11) (N := 11) rfl (by decide) (j0 := 0) rfl tw_322 tw_324 tw_0 tw_60 tw_325 hd_X11_refuse ⟨Nat.le_of_ble_eq_true rfl, Nat.le_of_ble_eq_true rfl⟩ rfl [0] rfl rfl (Nat.le_of_ble_eq_true rfl) dX11_house_61 hF (fun M1 r2 hF => ?_)
  exact r_iret (pc := 64) dX11_house_64 hF
set_option maxHeartbeats 4000000 in
theorem w_X11_house {X : Option Cx} {G : EG} {res : Mem × Int32} (M : Mem) (a0 : Nat) (a1 : Int32) (a2 : Int32) (a3 : Int32) (hF : F_X11_house M a0 a1 a2 a3 = some res) : T X (RI G res) P_X11_house M [(a0, 13)] [(0, .ref a0), (1, .int a1), (2, .int a2), (3, .int a3)] [] 0 := by
  unfold F_X11_house at hF
  refine r_iload_n (pc := 0) 1 dX11_house_0 rfl rfl ?_
  refine r_if_lt (pc := 1) (tgt := 12) dX11_house_1 rfl hF (fun hF => ?_) (fun hF => ?_)
  · exact T.sub ((w_X11_house_p12) M a0 hF) [0] [0] rfl rfl
  · refine r_iload_n (pc := 4) 2 dX11_house_4 rfl rfl ?_
    refine r_if_lt (pc := 5) (tgt := 12) dX11_house_5 rfl hF (fun hF => ?_) (fun hF => ?_)
    · exact T.sub ((w_X11_house_p12) M a0 hF) [0] [0] rfl rfl
    · refine r_iload_n (pc := 8) 3 dX11_house_8 rfl rfl ?_
      refine r_if_ge (pc := 9) (tgt := 19) dX11_house_9 rfl hF (fun hF => ?_) (fun hF => ?_)
      · refine r_aload_n (pc := 19) 0 dX11_house_19 rfl rfl ?_
        refine gf_X11_10 (pc := 20) (j := 0) rfl dX11_house_20 ?_
        refine r_lr (by decide) hF (fun b1 hF => ?_)
        refine gf_X11_136 (pc := 23) (j := 0) rfl dX11_house_23 ?_
        refine r_lr (by decide) hF (fun b2 hF => ?_)
        refine r_callV_I (pc := 26) (Py := P_Jx4a65c_size_8abf5) (n := 0) (As := []) (fun q e => k_Jx4a65c_size_8abf5 G _ b2 q e) (c := 0) (Tb := TJx4a65c) (N := 3) rfl (by decide) (j0 := 0) rfl tw_470 tw_344 tw_345 tw_64 tw_346 hd_Jx4a65c_size_8abf5 ⟨Nat.le_of_ble_eq_true rfl, Nat.le_of_ble_eq_true rfl⟩ rfl [0] rfl rfl (Nat.le_of_ble_eq_true rfl) dX11_house_26 hF (fun M3 r4 hF => ?_)
        refine r_istore (pc := 29) (L1 := [(4, .int r4), (0, .ref a0), (1, .int a1), (2, .int a2), (3, .int a3)]) dX11_house_29 (by decide) rfl ?_
        refine r_iload_n (pc := 31) 2 dX11_house_31 rfl rfl ?_
        refine r_sipush (pc := 32) (w := 9999) dX11_house_32 (by decide) ?_
        refine r_icmp_gt (pc := 35) (tgt := 58) dX11_house_35 rfl hF (fun hF => ?_) (fun hF => ?_)
        · exact T.sub ((w_X11_house_p58) M3 a0 hF) [2] [1] rfl rfl
        · refine r_iload_n (pc := 38) 3 dX11_house_38 rfl rfl ?_
          refine r_sipush (pc := 39) (w := 999) dX11_house_39 (by decide) ?_
          refine r_icmp_gt (pc := 42) (tgt := 58) dX11_house_42 rfl hF (fun hF => ?_) (fun hF => ?_)
          · exact T.sub ((w_X11_house_p58) M3 a0 hF) [2] [1] rfl rfl
          · refine r_iload_n (pc := 45) 4 dX11_house_45 rfl rfl ?_
            refine r_ldc (pc := 46) (w := 16777215) tw_664 dX11_house_46 ?_
            refine r_icmp_gt (pc := 48) (tgt := 58) dX11_house_48 rfl hF (fun hF => ?_) (fun hF => ?_)
            · exact T.sub ((w_X11_house_p58) M3 a0 hF) [2] [1] rfl rfl
            · refine r_iload (pc := 51) 0 dX11_house_51 rfl ?_
              refine r_bipush (pc := 53) (w := 20) dX11_house_53 (by decide) ?_
              refine r_icmp_lt (pc := 55) (tgt := 65) dX11_house_55 rfl hF (fun hF => ?_) (fun hF => ?_)
              · refine r_aload_n (pc := 65) 1 dX11_house_65 rfl rfl ?_
                refine gf_X11_10 (pc := 66) (j := 2) rfl dX11_house_66 ?_
                refine r_lr (by decide) hF (fun b5 hF => ?_)
                refine gf_X11_136 (pc := 69) (j := 0) rfl dX11_house_69 ?_
                refine r_lr (by decide) hF (fun b6 hF => ?_)
                refine r_new (pc := 72) (c := 3) (N := 5) tin_X2 tyX2 tyX2_ok rfl rfl (by decide) tw_665 tw_666 tw_79 (by decide +kernel) dX11_house_72 hF (fun b7 M8 hF => ?_)
                refine r_dup (pc := 75) dX11_house_75 rfl ?_
                refine r_iload_n (pc := 76) 2 dX11_house_76 rfl rfl ?_
                refine r_iload_n (pc := 77) 3 dX11_house_77 rfl rfl ?_
                refine r_iload_n (pc := 78) 4 dX11_house_78 rfl rfl ?_
                refine r_callI_V (pc := 79) (Py := P_X2_init) (n := 3) (As := [.int a1, .int a2, .int a3]) (fun q e => k_X2_init G _ b7 a1 a2 a3 q e) tw_667 tw_668 tw_79 tw_669 rfl rfl hd_X2_init ⟨Nat.le_of_ble_eq_true rfl, Nat.le_of_ble_eq_true rfl⟩ rfl [0] rfl rfl (Nat.le_of_ble_eq_true rfl) dX11_house_79 hF (fun M9 r10 hF => ?_)
                refine r_callV_I (pc := 82) (Py := P_Jx4a65c_add_9ea2d) (n := 1) (As := [.ref b7]) (fun q e => k_Jx4a65c_add_9ea2d G _ b6 b7 q e) (c := 0) (Tb := TJx4a65c) (N := 3) rfl (by decide) (j0 := 1) rfl tw_619 tw_513 tw_514 tw_64 tw_515 hd_Jx4a65c_add_9ea2d ⟨Nat.le_of_ble_eq_true rfl, Nat.le_of_ble_eq_true rfl⟩ rfl [1] rfl rfl (Nat.le_of_ble_eq_true rfl) dX11_house_82 hF (fun M11 r12 hF => ?_)
                refine r_pop (pc := 85) dX11_house_85 rfl ?_
                refine r_iload (pc := 86) 0 dX11_house_86 rfl ?_
                exact r_iret (pc := 88) dX11_house_88 hF
              · exact T.sub ((w_X11_house_p58) M3 a0 hF) [2] [1] rfl rfl
      · exact T.sub ((w_X11_house_p12) M a0 hF) [0] [0] rfl rfl
theorem k_X11_house (G : EG) (M : Mem) (a0 : Nat) (a1 : Int32) (a2 : Int32) (a3 : Int32) (q : Mem × Int32) (h : F_X11_house M a0 a1 a2 a3 = some q) : Kt yX11_house P_X11_house M [(a0, 13)] [.ref a0, .int a1, .int a2, .int a3] (RI G q) := Kt.of (by decide +kernel) rfl (Nat.le_of_ble_eq_true rfl) rfl (fun X hz => w_X11_house M a0 a1 a2 a3 h)
set_option maxHeartbeats 4000000 in
theorem w_X1_init {X : Option Cx} {G : EG} {res : Mem × Unit} (hzi : ∀ x, X = some x → Zi x) (M : Mem) (a0 : Nat) (a1 : Nat) (a2 : Nat) (a3 : Nat) (hF : F_X1_init M a0 a1 a2 a3 = some res) : T X (RV G res) P_X1_init M [(a0, 3), (a1, 12), (a2, 9), (a3, 8)] [(0, .ref a0), (1, .ref a1), (2, .ref a2), (3, .ref a3)] [] 0 := by
  unfold F_X1_init at hF
  refine r_aload_n (pc := 0) 0 dX1_init_0 rfl rfl ?_
  refine r_objInit (pc := 1) tw_250 tw_93 tw_94 ⟨Nat.le_of_ble_eq_true rfl, Nat.le_of_ble_eq_true rfl⟩ (Nat.le_of_ble_eq_true rfl) dX1_init_1 ?_
  refine r_aload_n (pc := 4) 0 dX1_init_4 rfl rfl ?_
  refine r_new (pc := 5) (c := 0) (N := 3) tin_Jx4a65c tyJx4a65c tyJx4a65c_ok rfl rfl (by decide) tw_251 tw_102 tw_64 (by decide +kernel) dX1_init_5 hF (fun b1 M2 hF => ?_)
  refine r_dup (pc := 8) dX1_init_8 rfl ?_
  refine r_callI_V (pc := 9) (Py := P_Jx4a65c_init_da8c8) (n := 0) (As := []) (fun q e => k_Jx4a65c_init_da8c8 G _ b1 q e) tw_252 tw_104 tw_64 tw_105 rfl rfl hd_Jx4a65c_init_da8c8 ⟨Nat.le_of_ble_eq_true rfl, Nat.le_of_ble_eq_true rfl⟩ rfl [0] rfl rfl (Nat.le_of_ble_eq_true rfl) dX1_init_9 hF (fun M3 r4 hF => ?_)
  refine pf_X1_12 (pc := 12) hzi (w := (some b1)) (j := 1) rfl dX1_init_12 hF (fun M5 hF => ?_)
  refine r_aload_n (pc := 15) 0 dX1_init_15 rfl rfl ?_
  refine r_bipush (pc := 16) (w := 9) dX1_init_16 (by decide) ?_
  refine r_newJ (pc := 18) tw_186 dX1_init_18 hF (fun b6 M7 hF => ?_)
  refine pf_X1_18 (pc := 20) hzi (w := (some b6)) (j := 2) rfl dX1_init_20 hF (fun M8 hF => ?_)
  refine r_aload_n (pc := 23) 0 dX1_init_23 rfl rfl ?_
  refine r_aload_n (pc := 24) 1 dX1_init_24 rfl rfl ?_
  refine pf_X1_22 (pc := 25) hzi (w := (some a1)) (j := 2) rfl dX1_init_25 hF (fun M9 hF => ?_)
  refine r_aload_n (pc := 28) 0 dX1_init_28 rfl rfl ?_
  refine r_aload_n (pc := 29) 2 dX1_init_29 rfl rfl ?_
  refine pf_X1_26 (pc := 30) hzi (w := (some a2)) (j := 2) rfl dX1_init_30 hF (fun M10 hF => ?_)
  refine r_aload_n (pc := 33) 0 dX1_init_33 rfl rfl ?_
  refine r_aload_n (pc := 34) 3 dX1_init_34 rfl rfl ?_
  refine pf_X1_30 (pc := 35) hzi (w := (some a3)) (j := 2) rfl dX1_init_35 hF (fun M11 hF => ?_)
  exact r_vret (pc := 38) dX1_init_38 hF
theorem k_X1_init (G : EG) (M : Mem) (a0 : Nat) (a1 : Nat) (a2 : Nat) (a3 : Nat) (q : Mem × Unit) (h : F_X1_init M a0 a1 a2 a3 = some q) : Kt yX1_init P_X1_init M [(a0, 3), (a1, 12), (a2, 9), (a3, 8)] [.ref a0, .ref a1, .ref a2, .ref a3] (RV G q) := Kt.of (by decide +kernel) rfl (Nat.le_of_ble_eq_true rfl) rfl (fun X hz => w_X1_init (fun x hx => hz x hx rfl) M a0 a1 a2 a3 h)
set_option maxHeartbeats 4000000 in
theorem w_X6_init {X : Option Cx} {G : EG} {res : Mem × Unit} (hzi : ∀ x, X = some x → Zi x) (M : Mem) (a0 : Nat) (hF : F_X6_init M a0 = some res) : T X (RV G res) P_X6_init M [(a0, 8)] [(0, .ref a0)] [] 0 := by
  unfold F_X6_init at hF
  refine r_aload_n (pc := 0) 0 dX6_init_0 rfl rfl ?_
  refine r_objInit (pc := 1) tw_172 tw_93 tw_94 ⟨Nat.le_of_ble_eq_true rfl, Nat.le_of_ble_eq_true rfl⟩ (Nat.le_of_ble_eq_true rfl) dX6_init_1 ?_
  refine r_aload_n (pc := 4) 0 dX6_init_4 rfl rfl ?_
  refine r_new (pc := 5) (c := 0) (N := 3) tin_Jx4a65c tyJx4a65c tyJx4a65c_ok rfl rfl (by decide) tw_173 tw_102 tw_64 (by decide +kernel) dX6_init_5 hF (fun b1 M2 hF => ?_)
  refine r_dup (pc := 8) dX6_init_8 rfl ?_
  refine r_callI_V (pc := 9) (Py := P_Jx4a65c_init_da8c8) (n := 0) (As := []) (fun q e => k_Jx4a65c_init_da8c8 G _ b1 q e) tw_174 tw_104 tw_64 tw_105 rfl rfl hd_Jx4a65c_init_da8c8 ⟨Nat.le_of_ble_eq_true rfl, Nat.le_of_ble_eq_true rfl⟩ rfl [0] rfl rfl (Nat.le_of_ble_eq_true rfl) dX6_init_9 hF (fun M3 r4 hF => ?_)
  refine pf_X6_12 (pc := 12) hzi (w := (some b1)) (j := 1) rfl dX6_init_12 hF (fun M5 hF => ?_)
  refine r_aload_n (pc := 15) 0 dX6_init_15 rfl rfl ?_
  refine r_bipush (pc := 16) (w := 9) dX6_init_16 (by decide) ?_
  refine r_newJ (pc := 18) tw_186 dX6_init_18 hF (fun b6 M7 hF => ?_)
  refine pf_X6_18 (pc := 20) hzi (w := (some b6)) (j := 2) rfl dX6_init_20 hF (fun M8 hF => ?_)
  refine r_aload_n (pc := 23) 0 dX6_init_23 rfl rfl ?_
  refine r_bipush (pc := 24) (w := 60) dX6_init_24 (by decide) ?_
  refine r_newJ (pc := 26) tw_186 dX6_init_26 hF (fun b9 M10 hF => ?_)
  refine pf_X6_22 (pc := 28) hzi (w := (some b9)) (j := 3) rfl dX6_init_28 hF (fun M11 hF => ?_)
  exact r_vret (pc := 31) dX6_init_31 hF
theorem k_X6_init (G : EG) (M : Mem) (a0 : Nat) (q : Mem × Unit) (h : F_X6_init M a0 = some q) : Kt yX6_init P_X6_init M [(a0, 8)] [.ref a0] (RV G q) := Kt.of (by decide +kernel) rfl (Nat.le_of_ble_eq_true rfl) rfl (fun X hz => w_X6_init (fun x hx => hz x hx rfl) M a0 h)
set_option maxHeartbeats 4000000 in
theorem w_X7_init {X : Option Cx} {G : EG} {res : Mem × Unit} (hzi : ∀ x, X = some x → Zi x) (M : Mem) (a0 : Nat) (hF : F_X7_init M a0 = some res) : T X (RV G res) P_X7_init M [(a0, 9)] [(0, .ref a0)] [] 0 := by
  unfold F_X7_init at hF
  refine r_aload_n (pc := 0) 0 dX7_init_0 rfl rfl ?_
  refine r_objInit (pc := 1) tw_155 tw_93 tw_94 ⟨Nat.le_of_ble_eq_true rfl, Nat.le_of_ble_eq_true rfl⟩ (Nat.le_of_ble_eq_true rfl) dX7_init_1 ?_
  refine r_aload_n (pc := 4) 0 dX7_init_4 rfl rfl ?_
  refine r_bipush (pc := 5) (w := 8) dX7_init_5 (by decide) ?_
  refine r_newI (pc := 7) tw_149 dX7_init_7 hF (fun b1 M2 hF => ?_)
  refine pf_X7_9 (pc := 9) hzi (w := (some b1)) (j := 1) rfl dX7_init_9 hF (fun M3 hF => ?_)
  refine r_aload_n (pc := 12) 0 dX7_init_12 rfl rfl ?_
  refine r_bipush (pc := 13) (w := 8) dX7_init_13 (by decide) ?_
  refine r_newI (pc := 15) tw_149 dX7_init_15 hF (fun b4 M5 hF => ?_)
  refine pf_X7_15 (pc := 17) hzi (w := (some b4)) (j := 2) rfl dX7_init_17 hF (fun M6 hF => ?_)
  exact r_vret (pc := 20) dX7_init_20 hF
theorem k_X7_init (G : EG) (M : Mem) (a0 : Nat) (q : Mem × Unit) (h : F_X7_init M a0 = some q) : Kt yX7_init P_X7_init M [(a0, 9)] [.ref a0] (RV G q) := Kt.of (by decide +kernel) rfl (Nat.le_of_ble_eq_true rfl) rfl (fun X hz => w_X7_init (fun x hx => hz x hx rfl) M a0 h)
set_option maxHeartbeats 4000000 in
theorem w_X8_init {X : Option Cx} {G : EG} {res : Mem × Unit} (hzi : ∀ x, X = some x → Zi x) (M : Mem) (a0 : Nat) (hF : F_X8_init M a0 = some res) : T X (RV G res) P_X8_init M [(a0, 10)] [(0, .ref a0)] [] 0 := by
  unfold F_X8_init at hF
  refine r_aload_n (pc := 0) 0 dX8_init_0 rfl rfl ?_
  refine r_objInit (pc := 1) tw_220 tw_93 tw_94 ⟨Nat.le_of_ble_eq_true rfl, Nat.le_of_ble_eq_true rfl⟩ (Nat.le_of_ble_eq_true rfl) dX8_init_1 ?_
  refine r_aload_n (pc := 4) 0 dX8_init_4 rfl rfl ?_
  refine r_bipush (pc := 5) (w := 100) dX8_init_5 (by decide) ?_
  refine pf_X8_9 (pc := 7) (j := 0) rfl dX8_init_7 hF (fun M1 hF => ?_)
  refine r_aload_n (pc := 10) 0 dX8_init_10 rfl rfl ?_
  refine r_bipush (pc := 11) (w := 24) dX8_init_11 (by decide) ?_
  refine r_newJ (pc := 13) tw_186 dX8_init_13 hF (fun b2 M3 hF => ?_)
  refine pf_X8_15 (pc := 15) hzi (w := (some b2)) (j := 1) rfl dX8_init_15 hF (fun M4 hF => ?_)
  refine r_aload_n (pc := 18) 0 dX8_init_18 rfl rfl ?_
  refine r_bipush (pc := 19) (w := 24) dX8_init_19 (by decide) ?_
  refine r_newJ (pc := 21) tw_186 dX8_init_21 hF (fun b5 M6 hF => ?_)
  refine pf_X8_19 (pc := 23) hzi (w := (some b5)) (j := 2) rfl dX8_init_23 hF (fun M7 hF => ?_)
  refine r_aload_n (pc := 26) 0 dX8_init_26 rfl rfl ?_
  refine r_bipush (pc := 27) (w := 24) dX8_init_27 (by decide) ?_
  refine r_newJ (pc := 29) tw_186 dX8_init_29 hF (fun b8 M9 hF => ?_)
  refine pf_X8_22 (pc := 31) hzi (w := (some b8)) (j := 3) rfl dX8_init_31 hF (fun M10 hF => ?_)
  refine r_aload_n (pc := 34) 0 dX8_init_34 rfl rfl ?_
  refine r_bipush (pc := 35) (w := 25) dX8_init_35 (by decide) ?_
  refine r_bipush (pc := 37) (w := 10) dX8_init_37 (by decide) ?_
  refine r_mna (pc := 39) (n := 25) (k := 10) tw_221 tw_186 dX8_init_39 rfl rfl hF (fun b11 M12 hF => ?_) (by decide)
  refine pf_X8_27 (pc := 43) hzi (w := (some b11)) (j := 4) rfl dX8_init_43 hF (fun M13 hF => ?_)
  exact r_vret (pc := 46) dX8_init_46 hF
theorem k_X8_init (G : EG) (M : Mem) (a0 : Nat) (q : Mem × Unit) (h : F_X8_init M a0 = some q) : Kt yX8_init P_X8_init M [(a0, 10)] [.ref a0] (RV G q) := Kt.of (by decide +kernel) rfl (Nat.le_of_ble_eq_true rfl) rfl (fun X hz => w_X8_init (fun x hx => hz x hx rfl) M a0 h)
set_option maxHeartbeats 4000000 in
theorem w_X9_init {X : Option Cx} {G : EG} {res : Mem × Unit} (hzi : ∀ x, X = some x → Zi x) (M : Mem) (a0 : Nat) (hF : F_X9_init M a0 = some res) : T X (RV G res) P_X9_init M [(a0, 11)] [(0, .ref a0)] [] 0 := by
  unfold F_X9_init at hF
  refine r_aload_n (pc := 0) 0 dX9_init_0 rfl rfl ?_
  refine r_objInit (pc := 1) tw_192 tw_93 tw_94 ⟨Nat.le_of_ble_eq_true rfl, Nat.le_of_ble_eq_true rfl⟩ (Nat.le_of_ble_eq_true rfl) dX9_init_1 ?_
  refine r_aload_n (pc := 4) 0 dX9_init_4 rfl rfl ?_
  refine r_bipush (pc := 5) (w := 60) dX9_init_5 (by decide) ?_
  refine r_newI (pc := 7) tw_149 dX9_init_7 hF (fun b1 M2 hF => ?_)
  refine pf_X9_9 (pc := 9) hzi (w := (some b1)) (j := 1) rfl dX9_init_9 hF (fun M3 hF => ?_)
  refine r_aload_n (pc := 12) 0 dX9_init_12 rfl rfl ?_
  refine r_bipush (pc := 13) (w := 60) dX9_init_13 (by decide) ?_
  refine r_newI (pc := 15) tw_149 dX9_init_15 hF (fun b4 M5 hF => ?_)
  refine pf_X9_15 (pc := 17) hzi (w := (some b4)) (j := 2) rfl dX9_init_17 hF (fun M6 hF => ?_)
  exact r_vret (pc := 20) dX9_init_20 hF
theorem k_X9_init (G : EG) (M : Mem) (a0 : Nat) (q : Mem × Unit) (h : F_X9_init M a0 = some q) : Kt yX9_init P_X9_init M [(a0, 11)] [.ref a0] (RV G q) := Kt.of (by decide +kernel) rfl (Nat.le_of_ble_eq_true rfl) rfl (fun X hz => w_X9_init (fun x hx => hz x hx rfl) M a0 h)
set_option maxHeartbeats 4000000 in
theorem w_X11_init {X : Option Cx} {G : EG} {res : Mem × Unit} (hzi : ∀ x, X = some x → Zi x) (M : Mem) (a0 : Nat) (hF : F_X11_init M a0 = some res) : T X (RV G res) P_X11_init M [(a0, 13)] [(0, .ref a0)] [] 0 := by
  unfold F_X11_init at hF
  refine r_aload_n (pc := 0) 0 dX11_init_0 rfl rfl ?_
  refine r_objInit (pc := 1) tw_92 tw_93 tw_94 ⟨Nat.le_of_ble_eq_true rfl, Nat.le_of_ble_eq_true rfl⟩ (Nat.le_of_ble_eq_true rfl) dX11_init_1 ?_
  refine r_aload_n (pc := 4) 0 dX11_init_4 rfl rfl ?_
  refine r_new (pc := 5) (c := 11) (N := 4) tin_X10 tyX10 tyX10_ok rfl rfl (by decide) tw_95 tw_96 tw_61 (by decide +kernel) dX11_init_5 hF (fun b1 M2 hF => ?_)
  refine r_dup (pc := 8) dX11_init_8 rfl ?_
  refine r_callI_V (pc := 9) (Py := P_X10_init) (n := 0) (As := []) (fun q e => k_X10_init G _ b1 q e) tw_97 tw_98 tw_61 tw_99 rfl rfl hd_X10_init ⟨Nat.le_of_ble_eq_true rfl, Nat.le_of_ble_eq_true rfl⟩ rfl [0] rfl rfl (Nat.le_of_ble_eq_true rfl) dX11_init_9 hF (fun M3 r4 hF => ?_)
  refine pf_X11_10 (pc := 12) hzi (w := (some b1)) (j := 1) rfl dX11_init_12 hF (fun M5 hF => ?_)
  refine r_aload_n (pc := 15) 0 dX11_init_15 rfl rfl ?_
  refine r_new (pc := 16) (c := 8) (N := 3) tin_X7 tyX7 tyX7_ok rfl rfl (by decide) tw_150 tw_151 tw_65 (by decide +kernel) dX11_init_16 hF (fun b6 M7 hF => ?_)
  refine r_dup (pc := 19) dX11_init_19 rfl ?_
  refine r_callIN_V (pc := 20) (Py := P_X7_init) (n := 0) (As := []) (fun q e => k_X7_init G _ b6 q e) tw_152 tw_153 tw_65 tw_154 rfl rfl hd_X7_init ⟨Nat.le_of_ble_eq_true rfl, Nat.le_of_ble_eq_true rfl⟩ rfl [0] rfl rfl (Nat.le_of_ble_eq_true rfl) dX11_init_20 hF (fun M8 r9 hF => ?_)
  refine pf_X11_19 (pc := 23) hzi (w := (some b6)) (j := 2) rfl dX11_init_23 hF (fun M10 hF => ?_)
  refine r_aload_n (pc := 26) 0 dX11_init_26 rfl rfl ?_
  refine r_new (pc := 27) (c := 7) (N := 3) tin_X6 tyX6 tyX6_ok rfl rfl (by decide) tw_167 tw_168 tw_66 (by decide +kernel) dX11_init_27 hF (fun b11 M12 hF => ?_)
  refine r_dup (pc := 30) dX11_init_30 rfl ?_
  refine r_callIN_V (pc := 31) (Py := P_X6_init) (n := 0) (As := []) (fun q e => k_X6_init G _ b11 q e) tw_169 tw_170 tw_66 tw_171 rfl rfl hd_X6_init ⟨Nat.le_of_ble_eq_true rfl, Nat.le_of_ble_eq_true rfl⟩ rfl [0] rfl rfl (Nat.le_of_ble_eq_true rfl) dX11_init_31 hF (fun M13 r14 hF => ?_)
  refine pf_X11_26 (pc := 34) hzi (w := (some b11)) (j := 3) rfl dX11_init_34 hF (fun M15 hF => ?_)
  refine r_aload_n (pc := 37) 0 dX11_init_37 rfl rfl ?_
  refine r_new (pc := 38) (c := 10) (N := 6) tin_X9 tyX9 tyX9_ok rfl rfl (by decide) tw_187 tw_188 tw_67 (by decide +kernel) dX11_init_38 hF (fun b16 M17 hF => ?_)
  refine r_dup (pc := 41) dX11_init_41 rfl ?_
  refine r_callIN_V (pc := 42) (Py := P_X9_init) (n := 0) (As := []) (fun q e => k_X9_init G _ b16 q e) tw_189 tw_190 tw_67 tw_191 rfl rfl hd_X9_init ⟨Nat.le_of_ble_eq_true rfl, Nat.le_of_ble_eq_true rfl⟩ rfl [0] rfl rfl (Nat.le_of_ble_eq_true rfl) dX11_init_42 hF (fun M18 r19 hF => ?_)
  refine pf_X11_33 (pc := 45) hzi (w := (some b16)) (j := 4) rfl dX11_init_45 hF (fun M20 hF => ?_)
  refine r_aload_n (pc := 48) 0 dX11_init_48 rfl rfl ?_
  refine r_new (pc := 49) (c := 9) (N := 6) tin_X8 tyX8 tyX8_ok rfl rfl (by decide) tw_215 tw_216 tw_68 (by decide +kernel) dX11_init_49 hF (fun b21 M22 hF => ?_)
  refine r_dup (pc := 52) dX11_init_52 rfl ?_
  refine r_callIN_V (pc := 53) (Py := P_X8_init) (n := 0) (As := []) (fun q e => k_X8_init G _ b21 q e) tw_217 tw_218 tw_68 tw_219 rfl rfl hd_X8_init ⟨Nat.le_of_ble_eq_true rfl, Nat.le_of_ble_eq_true rfl⟩ rfl [0] rfl rfl (Nat.le_of_ble_eq_true rfl) dX11_init_53 hF (fun M23 r24 hF => ?_)
  refine pf_X11_40 (pc := 56) hzi (w := (some b21)) (j := 5) rfl dX11_init_56 hF (fun M25 hF => ?_)
  refine r_aload_n (pc := 59) 0 dX11_init_59 rfl rfl ?_
  refine r_new (pc := 60) (c := 2) (N := 7) tin_X1 tyX1 tyX1_ok rfl rfl (by decide) tw_245 tw_246 tw_69 (by decide +kernel) dX11_init_60 hF (fun b26 M27 hF => ?_)
  refine r_dup (pc := 63) dX11_init_63 rfl ?_
  refine r_aload_n (pc := 64) 0 dX11_init_64 rfl rfl ?_
  refine gf_X11_10 (pc := 65) (j := 6) rfl dX11_init_65 ?_
  refine r_lr (by decide) hF (fun b28 hF => ?_)
  refine r_aload_n (pc := 68) 0 dX11_init_68 rfl rfl ?_
  refine gf_X11_19 (pc := 69) (j := 7) rfl dX11_init_69 ?_
  refine r_lr (by decide) hF (fun b29 hF => ?_)
  refine r_aload_n (pc := 72) 0 dX11_init_72 rfl rfl ?_
  refine gf_X11_26 (pc := 73) (j := 8) rfl dX11_init_73 ?_
  refine r_lr (by decide) hF (fun b30 hF => ?_)
  refine r_callI_V (pc := 76) (Py := P_X1_init) (n := 3) (As := [.ref b28, .ref b29, .ref b30]) (fun q e => k_X1_init G _ b26 b28 b29 b30 q e) tw_247 tw_248 tw_69 tw_249 rfl rfl hd_X1_init ⟨Nat.le_of_ble_eq_true rfl, Nat.le_of_ble_eq_true rfl⟩ rfl [3, 2, 1, 0] rfl rfl (Nat.le_of_ble_eq_true rfl) dX11_init_76 hF (fun M31 r32 hF => ?_)
  refine pf_X11_49 (pc := 79) hzi (w := (some b26)) (j := 9) rfl dX11_init_79 hF (fun M33 hF => ?_)
  refine r_aload_n (pc := 82) 0 dX11_init_82 rfl rfl ?_
  refine r_new (pc := 83) (c := 2) (N := 7) tin_X1 tyX1 tyX1_ok rfl rfl (by decide) tw_245 tw_246 tw_69 (by decide +kernel) dX11_init_83 hF (fun b34 M35 hF => ?_)
  refine r_dup (pc := 86) dX11_init_86 rfl ?_
  refine r_aload_n (pc := 87) 0 dX11_init_87 rfl rfl ?_
  refine gf_X11_10 (pc := 88) (j := 10) rfl dX11_init_88 ?_
  refine r_lr (by decide) hF (fun b36 hF => ?_)
  refine r_aload_n (pc := 91) 0 dX11_init_91 rfl rfl ?_
  refine gf_X11_19 (pc := 92) (j := 11) rfl dX11_init_92 ?_
  refine r_lr (by decide) hF (fun b37 hF => ?_)
  refine r_aload_n (pc := 95) 0 dX11_init_95 rfl rfl ?_
  refine gf_X11_26 (pc := 96) (j := 12) rfl dX11_init_96 ?_
  refine r_lr (by decide) hF (fun b38 hF => ?_)
  refine r_callI_V (pc := 99) (Py := P_X1_init) (n := 3) (As := [.ref b36, .ref b37, .ref b38]) (fun q e => k_X1_init G _ b34 b36 b37 b38 q e) tw_247 tw_248 tw_69 tw_249 rfl rfl hd_X1_init ⟨Nat.le_of_ble_eq_true rfl, Nat.le_of_ble_eq_true rfl⟩ rfl [3, 2, 1, 0] rfl rfl (Nat.le_of_ble_eq_true rfl) dX11_init_99 hF (fun M39 r40 hF => ?_)
  refine pf_X11_53 (pc := 102) hzi (w := (some b34)) (j := 13) rfl dX11_init_102 hF (fun M41 hF => ?_)
  refine r_aload_n (pc := 105) 0 dX11_init_105 rfl rfl ?_
  refine r_new (pc := 106) (c := 0) (N := 3) tin_Jx4a65c tyJx4a65c tyJx4a65c_ok rfl rfl (by decide) tw_279 tw_102 tw_64 (by decide +kernel) dX11_init_106 hF (fun b42 M43 hF => ?_)
  refine r_dup (pc := 109) dX11_init_109 rfl ?_
  refine r_callI_V (pc := 110) (Py := P_Jx4a65c_init_da8c8) (n := 0) (As := []) (fun q e => k_Jx4a65c_init_da8c8 G _ b42 q e) tw_280 tw_104 tw_64 tw_105 rfl rfl hd_Jx4a65c_init_da8c8 ⟨Nat.le_of_ble_eq_true rfl, Nat.le_of_ble_eq_true rfl⟩ rfl [0] rfl rfl (Nat.le_of_ble_eq_true rfl) dX11_init_110 hF (fun M44 r45 hF => ?_)
  refine pf_X11_59 (pc := 113) hzi (w := (some b42)) (j := 14) rfl dX11_init_113 hF (fun M46 hF => ?_)
  refine r_aload_n (pc := 116) 0 dX11_init_116 rfl rfl ?_
  refine r_bipush (pc := 117) (w := 7) dX11_init_117 (by decide) ?_
  refine r_newI (pc := 119) tw_149 dX11_init_119 hF (fun b47 M48 hF => ?_)
  refine pf_X11_63 (pc := 121) hzi (w := (some b47)) (j := 15) rfl dX11_init_121 hF (fun M49 hF => ?_)
  exact r_vret (pc := 124) dX11_init_124 hF
theorem k_X11_init (G : EG) (M : Mem) (a0 : Nat) (q : Mem × Unit) (h : F_X11_init M a0 = some q) : Kt yX11_init P_X11_init M [(a0, 13)] [.ref a0] (RV G q) := Kt.of (by decide +kernel) rfl (Nat.le_of_ble_eq_true rfl) rfl (fun X hz => w_X11_init (fun x hx => hz x hx rfl) M a0 h)
set_option maxHeartbeats 4000000 in
theorem w_X11_join_p18 {X : Option Cx} {G : EG} {res : Mem × Int32} : ∀ (M : Mem) (x0 : Nat), F_X11_join_p18 M x0 = some res → T X (RI G res) P_X11_join M [(x0, 13)] [(0, .ref x0)] [] 18 := by
  intro M x0 hF
  unfold F_X11_join_p18 at hF
  refine r_aload_n (pc := 18) 0 dX11_join_18 rfl rfl ?_
  refine r_iconst (pc := 19) (w := -1) dX11_join_19 (by decide) ?_
  refine r_callV_I (pc := 20) (Py := P_X11_refuse) (n := 1) (As := [.int ((-1 : Int32))]) (fun q e => k_X11_refuse G _ x0 (-1 : Int32) q e) (c := 12) (Tb := TX11) (N := 11) rfl (by decide) (j0 := 0) rfl tw_322 tw_324 tw_0 tw_60 tw_325 hd_X11_refuse ⟨Nat.le_of_ble_eq_true rfl, Nat.le_of_ble_eq_true rfl⟩ rfl [0] rfl rfl (Nat.le_of_ble_eq_true rfl) dX11_join_20 hF (fun M1 r2 hF => ?_)
  exact r_iret (pc := 23) dX11_join_23 hF
set_option maxHeartbeats 4000000 in
theorem w_X11_join {X : Option Cx} {G : EG} {res : Mem × Int32} (M : Mem) (a0 : Nat) (a1 : Int32) (a2 : Int32) (hF : F_X11_join M a0 a1 a2 = some res) : T X (RI G res) P_X11_join M [(a0, 13)] [(0, .ref a0), (1, .int a1), (2, .int a2)] [] 0 := by
  unfold F_X11_join at hF
  refine r_iload_n (pc := 0) 1 dX11_join_0 rfl rfl ?_
  refine r_if_lt (pc := 1) (tgt := 18) dX11_join_1 rfl hF (fun hF => ?_) (fun hF => ?_)
  · exact T.sub ((w_X11_join_p18) M a0 hF) [0] [0] rfl rfl
  · refine r_iload_n (pc := 4) 1 dX11_join_4 rfl rfl ?_
    refine r_aload_n (pc := 5) 0 dX11_join_5 rfl rfl ?_
    refine gf_X11_10 (pc := 6) (j := 0) rfl dX11_join_6 ?_
    refine r_lr (by decide) hF (fun b1 hF => ?_)
    refine gf_X11_136 (pc := 9) (j := 0) rfl dX11_join_9 ?_
    refine r_lr (by decide) hF (fun b2 hF => ?_)
    refine r_callV_I (pc := 12) (Py := P_Jx4a65c_size_8abf5) (n := 0) (As := []) (fun q e => k_Jx4a65c_size_8abf5 G _ b2 q e) (c := 0) (Tb := TJx4a65c) (N := 3) rfl (by decide) (j0 := 0) rfl tw_470 tw_344 tw_345 tw_64 tw_346 hd_Jx4a65c_size_8abf5 ⟨Nat.le_of_ble_eq_true rfl, Nat.le_of_ble_eq_true rfl⟩ rfl [0] rfl rfl (Nat.le_of_ble_eq_true rfl) dX11_join_12 hF (fun M3 r4 hF => ?_)
    refine r_icmp_lt (pc := 15) (tgt := 24) dX11_join_15 rfl hF (fun hF => ?_) (fun hF => ?_)
    · refine r_aload_n (pc := 24) 0 dX11_join_24 rfl rfl ?_
      refine gf_X11_10 (pc := 25) (j := 2) rfl dX11_join_25 ?_
      refine r_lr (by decide) hF (fun b5 hF => ?_)
      refine gf_X11_136 (pc := 28) (j := 0) rfl dX11_join_28 ?_
      refine r_lr (by decide) hF (fun b6 hF => ?_)
      refine r_iload_n (pc := 31) 1 dX11_join_31 rfl rfl ?_
      refine r_callV_R (pc := 32) (Py := P_Jx4a65c_get_915e3) (n := 1) (As := [.int a1]) (fun q e => k_Jx4a65c_get_915e3 G _ b6 a1 q e) (c := 0) (Tb := TJx4a65c) (N := 3) rfl (by decide) (j0 := 0) rfl tw_644 tw_348 tw_349 tw_64 tw_350 hd_Jx4a65c_get_915e3 ⟨Nat.le_of_ble_eq_true rfl, Nat.le_of_ble_eq_true rfl⟩ rfl [0] rfl rfl (Nat.le_of_ble_eq_true rfl) dX11_join_32 hF (fun M7 r8 hF => ?_)
      refine r_lr (by decide) hF (fun b9 hF => ?_)
      refine r_cast (pc := 35) (c := 3) (Tb := TX2) (N := 5) rfl (by decide) (j := 0) rfl tw_665 dX11_join_35 ?_
      refine r_astore_n (pc := 38) (L1 := [(3, .ref b9), (0, .ref a0), (1, .int a1), (2, .int a2)]) dX11_join_38 rfl (by decide) rfl ?_
      refine r_aload_n (pc := 39) 0 dX11_join_39 rfl rfl ?_
      refine gf_X11_149 (pc := 40) (j := 0) rfl dX11_join_40 ?_
      refine r_if_eq (pc := 43) (tgt := 53) dX11_join_43 rfl hF (fun hF => ?_) (fun hF => ?_)
      · refine r_iload_n (pc := 53) 3 dX11_join_53 rfl rfl ?_
        refine r_aload_n (pc := 54) 1 dX11_join_54 rfl rfl ?_
        refine gf_X11_49 (pc := 55) (j := 5) rfl dX11_join_55 ?_
        refine r_lr (by decide) hF (fun b10 hF => ?_)
        refine gf_X11_67 (pc := 58) (j := 0) rfl dX11_join_58 ?_
        refine r_bipush (pc := 61) (w := 24) dX11_join_61 (by decide) ?_
        refine r_idivc (pc := 63) dX11_join_63 (by decide) ?_
        refine r_sipush (pc := 64) (w := 333) dX11_join_64 (by decide) ?_
        refine r_callS_I (pc := 67) (Py := P_X11_beyond) (n := 3) (As := [.int a2, .int ((gI M7 206 b10) / (24 : Int32)), .int ((333 : Int32))]) (fun q e => k_X11_beyond G _ a2 ((gI M7 206 b10) / (24 : Int32)) (333 : Int32) q e) tw_319 tw_320 tw_60 tw_321 hd_X11_beyond ⟨Nat.le_of_ble_eq_true rfl, Nat.le_of_ble_eq_true rfl⟩ rfl [] rfl rfl (Nat.le_of_ble_eq_true rfl) dX11_join_67 hF (fun M11 r12 hF => ?_)
        refine r_istore (pc := 70) (L1 := [(4, .int r12), (3, .ref b9), (0, .ref a0), (1, .int a1), (2, .int a2)]) dX11_join_70 (by decide) rfl ?_
        refine r_iload (pc := 72) 0 dX11_join_72 rfl ?_
        refine r_if_eq (pc := 74) (tgt := 84) dX11_join_74 rfl hF (fun hF => ?_) (fun hF => ?_)
        · refine r_aload_n (pc := 84) 1 dX11_join_84 rfl rfl ?_
          refine r_iconst (pc := 85) (w := 1) dX11_join_85 (by decide) ?_
          refine pf_X11_149 (pc := 86) (j := 1) rfl dX11_join_86 hF (fun M13 hF => ?_)
          refine r_aload_n (pc := 89) 1 dX11_join_89 rfl rfl ?_
          refine r_iload_n (pc := 90) 4 dX11_join_90 rfl rfl ?_
          refine pf_X11_152 (pc := 91) (j := 1) rfl dX11_join_91 hF (fun M14 hF => ?_)
          refine r_iconst (pc := 94) (w := 1) dX11_join_94 (by decide) ?_
          exact r_iret (pc := 95) dX11_join_95 hF
        · refine r_aload_n (pc := 77) 2 dX11_join_77 rfl rfl ?_
          refine r_iload (pc := 78) 0 dX11_join_78 rfl ?_
          refine r_callV_I (pc := 80) (Py := P_X11_refuse) (n := 1) (As := [.int r12]) (fun q e => k_X11_refuse G _ a0 r12 q e) (c := 12) (Tb := TX11) (N := 11) rfl (by decide) (j0 := 6) rfl tw_322 tw_324 tw_0 tw_60 tw_325 hd_X11_refuse ⟨Nat.le_of_ble_eq_true rfl, Nat.le_of_ble_eq_true rfl⟩ rfl [6] rfl rfl (Nat.le_of_ble_eq_true rfl) dX11_join_80 hF (fun M15 r16 hF => ?_)
          exact r_iret (pc := 83) dX11_join_83 hF
      · refine r_aload_n (pc := 46) 1 dX11_join_46 rfl rfl ?_
        refine r_bipush (pc := 47) (w := -3) dX11_join_47 (by decide) ?_
        refine r_callV_I (pc := 49) (Py := P_X11_refuse) (n := 1) (As := [.int ((-3 : Int32))]) (fun q e => k_X11_refuse G _ a0 (-3 : Int32) q e) (c := 12) (Tb := TX11) (N := 11) rfl (by decide) (j0 := 5) rfl tw_322 tw_324 tw_0 tw_60 tw_325 hd_X11_refuse ⟨Nat.le_of_ble_eq_true rfl, Nat.le_of_ble_eq_true rfl⟩ rfl [5] rfl rfl (Nat.le_of_ble_eq_true rfl) dX11_join_49 hF (fun M17 r18 hF => ?_)
        exact r_iret (pc := 52) dX11_join_52 hF
    · exact T.sub ((w_X11_join_p18) M3 a0 hF) [2] [0] rfl rfl
theorem k_X11_join (G : EG) (M : Mem) (a0 : Nat) (a1 : Int32) (a2 : Int32) (q : Mem × Int32) (h : F_X11_join M a0 a1 a2 = some q) : Kt yX11_join P_X11_join M [(a0, 13)] [.ref a0, .int a1, .int a2] (RI G q) := Kt.of (by decide +kernel) rfl (Nat.le_of_ble_eq_true rfl) rfl (fun X hz => w_X11_join M a0 a1 a2 h)
set_option maxHeartbeats 4000000 in
theorem w_X11_leak_p77 {X : Option Cx} {G : EG} {res : Mem × Int64} {k27 : Mem → Nat → Int32 → Nat → Option Nat → Option Nat → Int32 → Option (Mem × Int64)} (hk27 : ∀ (M : Mem) (x0 : Nat) (x1 : Int32) (x2 : Nat) (x3 : Option Nat) (x4 : Option Nat) (x5 : Int32), k27 M x0 x1 x2 x3 x4 x5 = some res → T X (RJ G res) P_X11_leak M [(x0, 13)] [(0, .ref x0), (1, .int x1), (2, .ref x2), (3, va_rf x3), (4, va_rf x4), (5, .int x5)] [] 27) : ∀ (M : Mem) (x0 : Nat) (x1 : Int32) (x2 : Nat) (x3 : Option Nat) (x4 : Option Nat) (x5 : Int32), F_X11_leak_p77 k27 M x0 x1 x2 x3 x4 x5 = some res → T X (RJ G res) P_X11_leak M [(x0, 13)] [(0, .ref x0), (1, .int x1), (2, .ref x2), (3, va_rf x3), (4, va_rf x4), (5, .int x5)] [] 77 := by
  intro M x0 x1 x2 x3 x4 x5 hF
  unfold F_X11_leak_p77 at hF
  obtain ⟨v1, e9, hF⟩ := bnd_e hF
  refine r_iinc (pc := 77) (w := v1) (k := 5) (L1 := [(5, .int v1), (0, .ref x0), (1, .int x1), (2, .ref x2), (3, va_rf x3), (4, va_rf x4)]) dX11_leak_77 rfl (by rw [e9]; rfl) (by decide) (by cases x4 <;> rfl) ?_
  clear e9
  refine r_goto (pc := 80) (tgt := 27) dX11_leak_80 rfl ?_
  exact T.sub (hk27 M x0 x1 x2 x3 x4 v1 hF) [0] [1, 2, 3, 4, 5, 0] rfl rfl
set_option maxHeartbeats 4000000 in
theorem w_X11_leak_p72 {X : Option Cx} {G : EG} {res : Mem × Int64} {k27 : Mem → Nat → Int32 → Nat → Option Nat → Option Nat → Int32 → Option (Mem × Int64)} (hk27 : ∀ (M : Mem) (x0 : Nat) (x1 : Int32) (x2 : Nat) (x3 : Option Nat) (x4 : Option Nat) (x5 : Int32), k27 M x0 x1 x2 x3 x4 x5 = some res → T X (RJ G res) P_X11_leak M [(x0, 13)] [(0, .ref x0), (1, .int x1), (2, .ref x2), (3, va_rf x3), (4, va_rf x4), (5, .int x5)] [] 27) : ∀ (M : Mem) (x0 : Nat) (x1 : Int32) (x2 : Nat) (x5 : Int32) (x6 : Nat) (y0 : Nat), F_X11_leak_p72 k27 M x0 x1 x2 x5 x6 y0 = some res → T X (RJ G res) P_X11_leak M [(x0, 13), (x6, 5)] [(0, .ref x0), (1, .int x1), (2, .ref x2), (5, .int x5), (6, .ref x6)] [.ref y0] 72 := by
  intro M x0 x1 x2 x5 x6 y0 hF
  unfold F_X11_leak_p72 at hF
  refine r_astore_n (pc := 72) (L1 := [(3, .ref y0), (0, .ref x0), (1, .int x1), (2, .ref x2), (5, .int x5), (6, .ref x6)]) dX11_leak_72 rfl (by decide) rfl ?_
  refine r_aload (pc := 73) 5 dX11_leak_73 rfl ?_
  refine r_astore (pc := 75) (L1 := [(4, .ref x6), (3, .ref y0), (0, .ref x0), (1, .int x1), (2, .ref x2), (5, .int x5), (6, .ref x6)]) dX11_leak_75 (by decide) rfl ?_
  exact T.sub ((w_X11_leak_p77 hk27) M x0 x1 x2 (some y0) (some x6) x5 hF) [0] [2, 3, 4, 1, 0, 5] rfl rfl
set_option maxHeartbeats 4000000 in
theorem w_X11_leak_p27 {X : Option Cx} {G : EG} {res : Mem × Int64} {k83 : Mem → Nat → Nat → Option Nat → Option Nat → Option (Mem × Int64)} (hk83 : ∀ (M : Mem) (x0 : Nat) (x2 : Nat) (x3 : Option Nat) (x4 : Option Nat), k83 M x0 x2 x3 x4 = some res → T X (RJ G res) P_X11_leak M [(x0, 13)] [(0, .ref x0), (2, .ref x2), (3, va_rf x3), (4, va_rf x4)] [] 83) : ∀ (n : Nat) (M : Mem) (x0 : Nat) (x1 : Int32) (x2 : Nat) (x3 : Option Nat) (x4 : Option Nat) (x5 : Int32), F_X11_leak_p27 k83 n M x0 x1 x2 x3 x4 x5 = some res → T X (RJ G res) P_X11_leak M [(x0, 13)] [(0, .ref x0), (1, .int x1), (2, .ref x2), (3, va_rf x3), (4, va_rf x4), (5, .int x5)] [] 27 := by
  intro n
  induction n with
  | zero =>
    intro M x0 x1 x2 x3 x4 x5 hF
    cases hF
  | succ n ih =>
    intro M x0 x1 x2 x3 x4 x5 hF
    unfold F_X11_leak_p27 at hF
    refine r_iload (pc := 27) 5 dX11_leak_27 rfl ?_
    refine r_aload_n (pc := 29) 0 dX11_leak_29 rfl rfl ?_
    refine gf_X11_59 (pc := 30) (j := 0) rfl dX11_leak_30 ?_
    refine r_lr (by decide) hF (fun b1 hF => ?_)
    refine r_callV_I (pc := 33) (Py := P_Jx4a65c_size_8abf5) (n := 0) (As := []) (fun q e => k_Jx4a65c_size_8abf5 G _ b1 q e) (c := 0) (Tb := TJx4a65c) (N := 3) rfl (by decide) (j0 := 0) rfl tw_470 tw_344 tw_345 tw_64 tw_346 hd_Jx4a65c_size_8abf5 ⟨Nat.le_of_ble_eq_true rfl, Nat.le_of_ble_eq_true rfl⟩ rfl [0] rfl rfl (Nat.le_of_ble_eq_true rfl) dX11_leak_33 hF (fun M2 r3 hF => ?_)
    refine r_icmp_ge (pc := 36) (tgt := 83) dX11_leak_36 rfl hF (fun hF => ?_) (fun hF => ?_)
    · exact T.sub (hk83 M2 x0 x2 x3 x4 hF) [1] [0, 2, 3, 4] rfl rfl
    · refine r_aload_n (pc := 39) 0 dX11_leak_39 rfl rfl ?_
      refine gf_X11_59 (pc := 40) (j := 1) rfl dX11_leak_40 ?_
      refine r_lr (by decide) hF (fun b4 hF => ?_)
      refine r_iload (pc := 43) 5 dX11_leak_43 rfl ?_
      refine r_callV_R (pc := 45) (Py := P_Jx4a65c_get_915e3) (n := 1) (As := [.int x5]) (fun q e => k_Jx4a65c_get_915e3 G _ b4 x5 q e) (c := 0) (Tb := TJx4a65c) (N := 3) rfl (by decide) (j0 := 0) rfl tw_644 tw_348 tw_349 tw_64 tw_350 hd_Jx4a65c_get_915e3 ⟨Nat.le_of_ble_eq_true rfl, Nat.le_of_ble_eq_true rfl⟩ rfl [0] rfl rfl (Nat.le_of_ble_eq_true rfl) dX11_leak_45 hF (fun M5 r6 hF => ?_)
      refine r_lr (by decide) hF (fun b7 hF => ?_)
      refine r_cast (pc := 48) (c := 4) (Tb := TX3) (N := 3) rfl (by decide) (j := 0) rfl tw_1040 dX11_leak_48 ?_
      refine r_astore (pc := 51) (L1 := [(6, .ref b7), (0, .ref x0), (1, .int x1), (2, .ref x2), (3, va_rf x3), (4, va_rf x4), (5, .int x5)]) dX11_leak_51 (by decide) rfl ?_
      refine r_aload (pc := 53) 0 dX11_leak_53 rfl ?_
      refine gf_X11_301 (pc := 55) (j := 0) rfl dX11_leak_55 ?_
      refine r_iload_n (pc := 58) 2 dX11_leak_58 rfl rfl ?_
      refine r_icmp_ne (pc := 59) (tgt := 77) dX11_leak_59 rfl hF (fun hF => ?_) (fun hF => ?_)
      · exact T.sub ((w_X11_leak_p77 ih) M5 x0 x1 x2 x3 x4 x5 hF) [3] [1, 2, 3, 4, 5, 6] rfl rfl
      · refine r_aloado_n (pc := 62) 4 dX11_leak_62 rfl rfl ?_
        refine r_ifnonnull (pc := 63) (tgt := 71) dX11_leak_63 rfl hF (fun e9 h0 => ?_) (fun b8 e9 h0 => ?_)
        · clear hF
          subst e9
          have hF := h0
          clear h0
          refine r_aload (pc := 66) 0 dX11_leak_66 rfl ?_
          refine r_goto (pc := 68) (tgt := 72) dX11_leak_68 rfl ?_
          exact T.sub ((w_X11_leak_p72 ih) M5 x0 x1 x2 x5 b7 b7 hF) [3, 0] [1, 2, 3, 6, 0] rfl rfl
        · clear hF
          subst e9
          have hF := h0
          clear h0
          refine r_aload_n (pc := 71) 4 dX11_leak_71 rfl rfl ?_
          exact T.sub ((w_X11_leak_p72 ih) M5 x0 x1 x2 x5 b7 b8 hF) [3, 0] [1, 2, 3, 6, 0] rfl rfl
set_option maxHeartbeats 4000000 in
theorem w_X11_leak_p104 {X : Option Cx} {G : EG} {res : Mem × Int64} : ∀ (M : Mem) (x0 : Nat), F_X11_leak_p104 M x0 = some res → T X (RJ G res) P_X11_leak M [(x0, 13)] [(0, .ref x0)] [] 104 := by
  intro M x0 hF
  unfold F_X11_leak_p104 at hF
  refine r_aload_n (pc := 104) 0 dX11_leak_104 rfl rfl ?_
  refine r_bipush (pc := 105) (w := -3) dX11_leak_105 (by decide) ?_
  refine r_callV_J (pc := 107) (Py := P_X11_refuseLong) (n := 1) (As := [.int ((-3 : Int32))]) (fun q e => k_X11_refuseLong G _ x0 (-3 : Int32) q e) (c := 12) (Tb := TX11) (N := 11) rfl (by decide) (j0 := 0) rfl tw_646 tw_648 tw_10 tw_60 tw_649 hd_X11_refuseLong ⟨Nat.le_of_ble_eq_true rfl, Nat.le_of_ble_eq_true rfl⟩ rfl [0] rfl rfl (Nat.le_of_ble_eq_true rfl) dX11_leak_107 hF (fun M1 r2 hF => ?_)
  exact r_lret (pc := 110) dX11_leak_110 hF
set_option maxHeartbeats 4000000 in
theorem w_X11_leak_p83 {X : Option Cx} {G : EG} {res : Mem × Int64} : ∀ (M : Mem) (x0 : Nat) (x2 : Nat) (x3 : Option Nat) (x4 : Option Nat), F_X11_leak_p83 M x0 x2 x3 x4 = some res → T X (RJ G res) P_X11_leak M [(x0, 13)] [(0, .ref x0), (2, .ref x2), (3, va_rf x3), (4, va_rf x4)] [] 83 := by
  intro M x0 x2 x3 x4 hF
  unfold F_X11_leak_p83 at hF
  refine r_aloado_n (pc := 83) 2 dX11_leak_83 rfl rfl ?_
  refine r_ifnull (pc := 84) (tgt := 104) dX11_leak_84 rfl hF (fun e9 h0 => ?_) (fun b1 e9 h0 => ?_)
  · clear hF
    subst e9
    have hF := h0
    clear h0
    exact T.sub ((w_X11_leak_p104) M x0 hF) [0] [0] rfl rfl
  · clear hF
    subst e9
    have hF := h0
    clear h0
    refine r_aloado (pc := 87) 3 dX11_leak_87 rfl ?_
    refine r_ifnull (pc := 89) (tgt := 104) dX11_leak_89 rfl hF (fun e9 h0 => ?_) (fun b2 e9 h0 => ?_)
    · clear hF
      subst e9
      have hF := h0
      clear h0
      exact T.sub ((w_X11_leak_p104) M x0 hF) [0] [0] rfl rfl
    · clear hF
      subst e9
      have hF := h0
      clear h0
      refine r_aload_n (pc := 92) 2 dX11_leak_92 rfl rfl ?_
      refine r_kind (by decide) hF (fun hF => ?_)
      refine gf_X11_304 (pc := 93) (j := 0) rfl dX11_leak_93 ?_
      refine r_aload (pc := 96) 3 dX11_leak_96 rfl ?_
      refine r_kind (by decide) hF (fun hF => ?_)
      refine gf_X11_304 (pc := 98) (j := 0) rfl dX11_leak_98 ?_
      refine r_icmp_ne (pc := 101) (tgt := 111) dX11_leak_101 rfl hF (fun hF => ?_) (fun hF => ?_)
      · refine r_aload_n (pc := 111) 2 dX11_leak_111 rfl rfl ?_
        refine gf_X11_298 (pc := 112) (j := 1) rfl dX11_leak_112 ?_
        refine r_aload (pc := 115) 3 dX11_leak_115 rfl ?_
        refine gf_X11_298 (pc := 117) (j := 0) rfl dX11_leak_117 ?_
        refine r_lsub (pc := 120) dX11_leak_120 ?_
        refine r_aload_n (pc := 121) 1 dX11_leak_121 rfl rfl ?_
        refine r_kind (by decide) hF (fun hF => ?_)
        refine gf_X11_291 (pc := 122) (j := 0) rfl dX11_leak_122 ?_
        refine r_lr (by decide) hF (fun b3 hF => ?_)
        refine gf_X11_305 (pc := 125) (j := 0) rfl dX11_leak_125 ?_
        refine r_lmul (pc := 128) dX11_leak_128 ?_
        refine r_aload (pc := 129) 3 dX11_leak_129 rfl ?_
        refine gf_X11_304 (pc := 131) (j := 2) rfl dX11_leak_131 ?_
        refine r_aload_n (pc := 134) 2 dX11_leak_134 rfl rfl ?_
        refine gf_X11_304 (pc := 135) (j := 3) rfl dX11_leak_135 ?_
        refine r_isub (pc := 138) dX11_leak_138 ?_
        refine r_i2l (pc := 139) dX11_leak_139 ?_
        refine r_callS_J (pc := 140) (Py := P_X11_cut) (n := 2) (As := [.long (((gJ M 402 b1) - (gJ M 402 b2)) * (gJ M 500 b3)), .long (((gI M 401 b2) - (gI M 401 b1)).toInt64)]) (fun q e => k_X11_cut G _ (((gJ M 402 b1) - (gJ M 402 b2)) * (gJ M 500 b3)) (((gI M 401 b2) - (gI M 401 b1)).toInt64) q e) tw_1067 tw_400 tw_60 tw_401 hd_X11_cut ⟨Nat.le_of_ble_eq_true rfl, Nat.le_of_ble_eq_true rfl⟩ rfl [] rfl rfl (Nat.le_of_ble_eq_true rfl) dX11_leak_140 hF (fun M4 r5 hF => ?_)
        exact r_lret (pc := 143) dX11_leak_143 hF
      · exact T.sub ((w_X11_leak_p104) M x0 hF) [2] [0] rfl rfl
set_option maxHeartbeats 4000000 in
theorem w_X11_leak {X : Option Cx} {G : EG} {res : Mem × Int64} (M : Mem) (a0 : Nat) (a1 : Int32) (hF : F_X11_leak M a0 a1 = some res) : T X (RJ G res) P_X11_leak M [(a0, 13)] [(0, .ref a0), (1, .int a1)] [] 0 := by
  unfold F_X11_leak at hF
  refine r_aload_n (pc := 0) 0 dX11_leak_0 rfl rfl ?_
  refine gf_X11_49 (pc := 1) (j := 0) rfl dX11_leak_1 ?_
  refine r_lr (by decide) hF (fun b1 hF => ?_)
  refine r_iload_n (pc := 4) 1 dX11_leak_4 rfl rfl ?_
  refine r_callV_R (pc := 5) (Py := P_X1_find) (n := 1) (As := [.int a1]) (fun q e => k_X1_find G _ b1 a1 q e) (c := 2) (Tb := TX1) (N := 7) rfl (by decide) (j0 := 0) rfl tw_624 tw_625 tw_626 tw_69 tw_627 hd_X1_find ⟨Nat.le_of_ble_eq_true rfl, Nat.le_of_ble_eq_true rfl⟩ rfl [0] rfl rfl (Nat.le_of_ble_eq_true rfl) dX11_leak_5 hF (fun M2 r3 hF => ?_)
  refine r_astoreo_n (pc := 8) (r := r3) (L1 := [(2, va_rf r3), (0, .ref a0), (1, .int a1)]) dX11_leak_8 rfl (by decide) rfl ?_
  refine r_aloado_n (pc := 9) 0 dX11_leak_9 rfl rfl ?_
  refine r_ifnonnull (pc := 10) (tgt := 19) dX11_leak_10 rfl hF (fun e9 h0 => ?_) (fun b4 e9 h0 => ?_)
  · clear hF
    subst e9
    have hF := h0
    clear h0
    refine r_aload_n (pc := 13) 1 dX11_leak_13 rfl rfl ?_
    refine r_iconst (pc := 14) (w := -1) dX11_leak_14 (by decide) ?_
    refine r_callV_J (pc := 15) (Py := P_X11_refuseLong) (n := 1) (As := [.int ((-1 : Int32))]) (fun q e => k_X11_refuseLong G _ a0 (-1 : Int32) q e) (c := 12) (Tb := TX11) (N := 11) rfl (by decide) (j0 := 1) rfl tw_646 tw_648 tw_10 tw_60 tw_649 hd_X11_refuseLong ⟨Nat.le_of_ble_eq_true rfl, Nat.le_of_ble_eq_true rfl⟩ rfl [1] rfl rfl (Nat.le_of_ble_eq_true rfl) dX11_leak_15 hF (fun M5 r6 hF => ?_)
    exact r_lret (pc := 18) dX11_leak_18 hF
  · clear hF
    subst e9
    have hF := h0
    clear h0
    refine r_null (pc := 19) dX11_leak_19 ?_
    refine r_astoreo_n (pc := 20) (r := none) (L1 := [(3, va_rf none), (2, .ref b4), (0, .ref a0), (1, .int a1)]) dX11_leak_20 rfl (by decide) rfl ?_
    refine r_null (pc := 21) dX11_leak_21 ?_
    refine r_astoreo (pc := 22) (r := none) (L1 := [(4, va_rf none), (3, va_rf none), (2, .ref b4), (0, .ref a0), (1, .int a1)]) dX11_leak_22 (by decide) rfl ?_
    refine r_iconst (pc := 24) (w := 0) dX11_leak_24 (by decide) ?_
    refine r_istore (pc := 25) (L1 := [(5, .int ((0 : Int32))), (4, va_rf none), (3, va_rf none), (2, .ref b4), (0, .ref a0), (1, .int a1)]) dX11_leak_25 (by decide) rfl ?_
    exact T.sub ((w_X11_leak_p27 (w_X11_leak_p83) FU) M2 a0 a1 b4 none none (0 : Int32) hF) [1] [4, 5, 3, 2, 1, 0] rfl rfl
theorem k_X11_leak (G : EG) (M : Mem) (a0 : Nat) (a1 : Int32) (q : Mem × Int64) (h : F_X11_leak M a0 a1 = some q) : Kt yX11_leak P_X11_leak M [(a0, 13)] [.ref a0, .int a1] (RJ G q) := Kt.of (by decide +kernel) rfl (Nat.le_of_ble_eq_true rfl) rfl (fun X hz => w_X11_leak M a0 a1 h)
set_option maxHeartbeats 4000000 in
theorem w_X11_lift_p31 {X : Option Cx} {G : EG} {res : Mem × Int32} : ∀ (M : Mem) (y0 : Int32), F_X11_lift_p31 M y0 = some res → T X (RI G res) P_X11_lift M [] [] [.int y0] 31 := by
  intro M y0 hF
  unfold F_X11_lift_p31 at hF
  exact r_iret (pc := 31) dX11_lift_31 hF
set_option maxHeartbeats 4000000 in
theorem w_X11_lift {X : Option Cx} {G : EG} {res : Mem × Int32} (M : Mem) (a0 : Nat) (a1 : Int32) (hF : F_X11_lift M a0 a1 = some res) : T X (RI G res) P_X11_lift M [(a0, 13)] [(0, .ref a0), (1, .int a1)] [] 0 := by
  unfold F_X11_lift at hF
  refine r_iload_n (pc := 0) 1 dX11_lift_0 rfl rfl ?_
  refine r_ldc (pc := 1) (w := -100000) tw_732 dX11_lift_1 ?_
  refine r_ldc (pc := 3) (w := 200000) tw_733 dX11_lift_3 ?_
  refine r_callS_I (pc := 5) (Py := P_X11_beyond) (n := 3) (As := [.int a1, .int ((-100000 : Int32)), .int ((200000 : Int32))]) (fun q e => k_X11_beyond G _ a1 (-100000 : Int32) (200000 : Int32) q e) tw_319 tw_320 tw_60 tw_321 hd_X11_beyond ⟨Nat.le_of_ble_eq_true rfl, Nat.le_of_ble_eq_true rfl⟩ rfl [] rfl rfl (Nat.le_of_ble_eq_true rfl) dX11_lift_5 hF (fun M1 r2 hF => ?_)
  refine r_istore_n (pc := 8) (L1 := [(2, .int r2), (0, .ref a0), (1, .int a1)]) dX11_lift_8 rfl (by decide) rfl ?_
  refine r_iload_n (pc := 9) 0 dX11_lift_9 rfl rfl ?_
  refine r_if_eq (pc := 10) (tgt := 21) dX11_lift_10 rfl hF (fun hF => ?_) (fun hF => ?_)
  · refine r_aload_n (pc := 21) 1 dX11_lift_21 rfl rfl ?_
    refine gf_X11_19 (pc := 22) (j := 0) rfl dX11_lift_22 ?_
    refine r_lr (by decide) hF (fun b3 hF => ?_)
    refine r_iload_n (pc := 25) 2 dX11_lift_25 rfl rfl ?_
    refine r_i2l (pc := 26) dX11_lift_26 ?_
    refine r_callV_J (pc := 27) (Py := P_X7_liftAt) (n := 1) (As := [.long (a1.toInt64)]) (fun q e => k_X7_liftAt G _ b3 (a1.toInt64) q e) (c := 8) (Tb := TX7) (N := 3) rfl (by decide) (j0 := 0) rfl tw_734 tw_445 tw_446 tw_65 tw_447 hd_X7_liftAt ⟨Nat.le_of_ble_eq_true rfl, Nat.le_of_ble_eq_true rfl⟩ rfl [0] rfl rfl (Nat.le_of_ble_eq_true rfl) dX11_lift_27 hF (fun M4 r5 hF => ?_)
    refine r_l2i (pc := 30) dX11_lift_30 ?_
    exact T.sub ((w_X11_lift_p31) M4 (r5.toInt32) hF) [] [] rfl rfl
  · refine r_aload_n (pc := 13) 1 dX11_lift_13 rfl rfl ?_
    refine r_iload_n (pc := 14) 0 dX11_lift_14 rfl rfl ?_
    refine r_callV_I (pc := 15) (Py := P_X11_refuse) (n := 1) (As := [.int r2]) (fun q e => k_X11_refuse G _ a0 r2 q e) (c := 12) (Tb := TX11) (N := 11) rfl (by decide) (j0 := 0) rfl tw_322 tw_324 tw_0 tw_60 tw_325 hd_X11_refuse ⟨Nat.le_of_ble_eq_true rfl, Nat.le_of_ble_eq_true rfl⟩ rfl [0] rfl rfl (Nat.le_of_ble_eq_true rfl) dX11_lift_15 hF (fun M6 r7 hF => ?_)
    refine r_goto (pc := 18) (tgt := 31) dX11_lift_18 rfl ?_
    exact T.sub ((w_X11_lift_p31) M6 r7 hF) [] [] rfl rfl
theorem k_X11_lift (G : EG) (M : Mem) (a0 : Nat) (a1 : Int32) (q : Mem × Int32) (h : F_X11_lift M a0 a1 = some q) : Kt yX11_lift P_X11_lift M [(a0, 13)] [.ref a0, .int a1] (RI G q) := Kt.of (by decide +kernel) rfl (Nat.le_of_ble_eq_true rfl) rfl (fun X hz => w_X11_lift M a0 a1 h)
set_option maxHeartbeats 4000000 in
theorem w_X11_may_p35 {X : Option Cx} {G : EG} {res : Mem × Int32} : ∀ (M : Mem) (x0 : Nat) (x2 : Int32) (x3 : Nat), F_X11_may_p35 M x0 x2 x3 = some res → T X (RI G res) P_X11_may M [(x0, 13)] [(0, .ref x0), (2, .int x2), (3, .ref x3)] [] 35 := by
  intro M x0 x2 x3 hF
  unfold F_X11_may_p35 at hF
  refine r_aload_n (pc := 35) 0 dX11_may_35 rfl rfl ?_
  refine gf_X11_49 (pc := 36) (j := 0) rfl dX11_may_36 ?_
  refine r_lr (by decide) hF (fun b1 hF => ?_)
  refine gf_X11_67 (pc := 39) (j := 0) rfl dX11_may_39 ?_
  refine r_gI (pc := 42) hF (fun v2 hF => ?_)
  refine r_istore (pc := 42) (L1 := [(4, .int v2), (0, .ref x0), (2, .int x2), (3, .ref x3)]) dX11_may_42 (by decide) rfl ?_
  refine r_aload_n (pc := 44) 1 dX11_may_44 rfl rfl ?_
  refine gf_X11_26 (pc := 45) (j := 1) rfl dX11_may_45 ?_
  refine r_lr (by decide) hF (fun b3 hF => ?_)
  refine r_aload_n (pc := 48) 1 dX11_may_48 rfl rfl ?_
  refine gf_X11_10 (pc := 49) (j := 2) rfl dX11_may_49 ?_
  refine r_lr (by decide) hF (fun b4 hF => ?_)
  refine r_iload (pc := 52) 0 dX11_may_52 rfl ?_
  refine r_aload_n (pc := 54) 1 dX11_may_54 rfl rfl ?_
  refine gf_X11_10 (pc := 55) (j := 3) rfl dX11_may_55 ?_
  refine r_lr (by decide) hF (fun b5 hF => ?_)
  refine r_iload (pc := 58) 0 dX11_may_58 rfl ?_
  refine r_callV_J (pc := 60) (Py := P_X10_needOf) (n := 1) (As := [.int v2]) (fun q e => k_X10_needOf G _ b5 v2 q e) (c := 11) (Tb := TX10) (N := 4) rfl (by decide) (j0 := 0) rfl tw_711 tw_331 tw_332 tw_61 tw_333 hd_X10_needOf ⟨Nat.le_of_ble_eq_true rfl, Nat.le_of_ble_eq_true rfl⟩ rfl [0] rfl rfl (Nat.le_of_ble_eq_true rfl) dX11_may_60 hF (fun M6 r7 hF => ?_)
  refine r_callV_V (pc := 63) (Py := P_X6_tellHour) (n := 3) (As := [.ref b4, .int v2, .long r7]) (fun q e => k_X6_tellHour G _ b3 b4 v2 r7 q e) (c := 7) (Tb := TX6) (N := 3) rfl (by decide) (j0 := 2) rfl tw_928 tw_367 tw_368 tw_66 tw_369 hd_X6_tellHour ⟨Nat.le_of_ble_eq_true rfl, Nat.le_of_ble_eq_true rfl⟩ rfl [2, 1] rfl rfl (Nat.le_of_ble_eq_true rfl) dX11_may_63 hF (fun M8 r9 hF => ?_)
  refine r_aload_n (pc := 66) 1 dX11_may_66 rfl rfl ?_
  refine gf_X11_26 (pc := 67) (j := 4) rfl dX11_may_67 ?_
  refine r_lr (by decide) hF (fun b10 hF => ?_)
  refine r_aload_n (pc := 70) 1 dX11_may_70 rfl rfl ?_
  refine gf_X11_26 (pc := 71) (j := 5) rfl dX11_may_71 ?_
  refine r_lr (by decide) hF (fun b11 hF => ?_)
  refine r_iload_n (pc := 74) 2 dX11_may_74 rfl rfl ?_
  refine r_iload (pc := 75) 0 dX11_may_75 rfl ?_
  refine r_bipush (pc := 77) (w := 24) dX11_may_77 (by decide) ?_
  refine r_idivc (pc := 79) dX11_may_79 (by decide) ?_
  refine r_callV_R (pc := 80) (Py := P_X6_inForce) (n := 2) (As := [.int x2, .int (v2 / (24 : Int32))]) (fun q e => k_X6_inForce G _ b11 x2 (v2 / (24 : Int32)) q e) (c := 7) (Tb := TX6) (N := 3) rfl (by decide) (j0 := 0) rfl tw_929 tw_407 tw_408 tw_66 tw_409 hd_X6_inForce ⟨Nat.le_of_ble_eq_true rfl, Nat.le_of_ble_eq_true rfl⟩ rfl [0] rfl rfl (Nat.le_of_ble_eq_true rfl) dX11_may_80 hF (fun M12 r13 hF => ?_)
  refine r_aload_n (pc := 83) 3 dX11_may_83 rfl rfl ?_
  refine r_kind (by decide) hF (fun hF => ?_)
  refine r_callV_J (pc := 84) (Py := P_X6_worth) (n := 2) (As := [va_rf r13, .ref x3]) (fun q e => k_X6_worth G _ b10 r13 x3 q e) (c := 7) (Tb := TX6) (N := 3) rfl (by decide) (j0 := 2) rfl tw_930 tw_415 tw_416 tw_66 tw_417 hd_X6_worth ⟨Nat.le_of_ble_eq_true rfl, Nat.le_of_ble_eq_true rfl⟩ rfl [2, 0] rfl rfl (Nat.le_of_ble_eq_true rfl) dX11_may_84 hF (fun M14 r15 hF => ?_)
  refine r_l2i (pc := 87) dX11_may_87 ?_
  exact r_iret (pc := 88) dX11_may_88 hF
set_option maxHeartbeats 4000000 in
theorem w_X11_may {X : Option Cx} {G : EG} {res : Mem × Int32} (M : Mem) (a0 : Nat) (a1 : Int32) (a2 : Int32) (hF : F_X11_may M a0 a1 a2 = some res) : T X (RI G res) P_X11_may M [(a0, 13)] [(0, .ref a0), (1, .int a1), (2, .int a2)] [] 0 := by
  unfold F_X11_may at hF
  refine r_aload_n (pc := 0) 0 dX11_may_0 rfl rfl ?_
  refine gf_X11_49 (pc := 1) (j := 0) rfl dX11_may_1 ?_
  refine r_lr (by decide) hF (fun b1 hF => ?_)
  refine r_iload_n (pc := 4) 1 dX11_may_4 rfl rfl ?_
  refine r_callV_R (pc := 5) (Py := P_X1_find) (n := 1) (As := [.int a1]) (fun q e => k_X1_find G _ b1 a1 q e) (c := 2) (Tb := TX1) (N := 7) rfl (by decide) (j0 := 0) rfl tw_624 tw_625 tw_626 tw_69 tw_627 hd_X1_find ⟨Nat.le_of_ble_eq_true rfl, Nat.le_of_ble_eq_true rfl⟩ rfl [0] rfl rfl (Nat.le_of_ble_eq_true rfl) dX11_may_5 hF (fun M2 r3 hF => ?_)
  refine r_astoreo_n (pc := 8) (r := r3) (L1 := [(3, va_rf r3), (0, .ref a0), (1, .int a1), (2, .int a2)]) dX11_may_8 rfl (by decide) rfl ?_
  refine r_aloado_n (pc := 9) 0 dX11_may_9 rfl rfl ?_
  refine r_ifnonnull (pc := 10) (tgt := 19) dX11_may_10 rfl hF (fun e9 h0 => ?_) (fun b4 e9 h0 => ?_)
  · clear hF
    subst e9
    have hF := h0
    clear h0
    refine r_aload_n (pc := 13) 1 dX11_may_13 rfl rfl ?_
    refine r_iconst (pc := 14) (w := -1) dX11_may_14 (by decide) ?_
    refine r_callV_I (pc := 15) (Py := P_X11_refuse) (n := 1) (As := [.int ((-1 : Int32))]) (fun q e => k_X11_refuse G _ a0 (-1 : Int32) q e) (c := 12) (Tb := TX11) (N := 11) rfl (by decide) (j0 := 1) rfl tw_322 tw_324 tw_0 tw_60 tw_325 hd_X11_refuse ⟨Nat.le_of_ble_eq_true rfl, Nat.le_of_ble_eq_true rfl⟩ rfl [1] rfl rfl (Nat.le_of_ble_eq_true rfl) dX11_may_15 hF (fun M5 r6 hF => ?_)
    exact r_iret (pc := 18) dX11_may_18 hF
  · clear hF
    subst e9
    have hF := h0
    clear h0
    refine r_iload_n (pc := 19) 3 dX11_may_19 rfl rfl ?_
    refine r_if_eq (pc := 20) (tgt := 35) dX11_may_20 rfl hF (fun hF => ?_) (fun hF => ?_)
    · exact T.sub ((w_X11_may_p35) M2 a0 a2 b4 hF) [1] [1, 3, 0] rfl rfl
    · refine r_iload_n (pc := 23) 3 dX11_may_23 rfl rfl ?_
      refine r_iconst (pc := 24) (w := 1) dX11_may_24 (by decide) ?_
      refine r_icmp_eq (pc := 25) (tgt := 35) dX11_may_25 rfl hF (fun hF => ?_) (fun hF => ?_)
      · exact T.sub ((w_X11_may_p35) M2 a0 a2 b4 hF) [1] [1, 3, 0] rfl rfl
      · refine r_aload_n (pc := 28) 1 dX11_may_28 rfl rfl ?_
        refine r_bipush (pc := 29) (w := -2) dX11_may_29 (by decide) ?_
        refine r_callV_I (pc := 31) (Py := P_X11_refuse) (n := 1) (As := [.int ((-2 : Int32))]) (fun q e => k_X11_refuse G _ a0 (-2 : Int32) q e) (c := 12) (Tb := TX11) (N := 11) rfl (by decide) (j0 := 1) rfl tw_322 tw_324 tw_0 tw_60 tw_325 hd_X11_refuse ⟨Nat.le_of_ble_eq_true rfl, Nat.le_of_ble_eq_true rfl⟩ rfl [1] rfl rfl (Nat.le_of_ble_eq_true rfl) dX11_may_31 hF (fun M7 r8 hF => ?_)
        exact r_iret (pc := 34) dX11_may_34 hF
theorem k_X11_may (G : EG) (M : Mem) (a0 : Nat) (a1 : Int32) (a2 : Int32) (q : Mem × Int32) (h : F_X11_may M a0 a1 a2 = some q) : Kt yX11_may P_X11_may M [(a0, 13)] [.ref a0, .int a1, .int a2] (RI G q) := Kt.of (by decide +kernel) rfl (Nat.le_of_ble_eq_true rfl) rfl (fun X hz => w_X11_may M a0 a1 a2 h)
set_option maxHeartbeats 4000000 in
theorem w_X11_need_p29 {X : Option Cx} {G : EG} {res : Mem × Int64} : ∀ (M : Mem) (y0 : Int64), F_X11_need_p29 M y0 = some res → T X (RJ G res) P_X11_need M [] [] [.long y0] 29 := by
  intro M y0 hF
  unfold F_X11_need_p29 at hF
  exact r_lret (pc := 29) dX11_need_29 hF
set_option maxHeartbeats 4000000 in
theorem w_X11_need {X : Option Cx} {G : EG} {res : Mem × Int64} (M : Mem) (a0 : Nat) (a1 : Int32) (hF : F_X11_need M a0 a1 = some res) : T X (RJ G res) P_X11_need M [(a0, 13)] [(0, .ref a0), (1, .int a1)] [] 0 := by
  unfold F_X11_need at hF
  refine r_iload_n (pc := 0) 1 dX11_need_0 rfl rfl ?_
  refine r_iconst (pc := 1) (w := 0) dX11_need_1 (by decide) ?_
  refine r_sipush (pc := 2) (w := 9999) dX11_need_2 (by decide) ?_
  refine r_callS_I (pc := 5) (Py := P_X11_beyond) (n := 3) (As := [.int a1, .int ((0 : Int32)), .int ((9999 : Int32))]) (fun q e => k_X11_beyond G _ a1 (0 : Int32) (9999 : Int32) q e) tw_319 tw_320 tw_60 tw_321 hd_X11_beyond ⟨Nat.le_of_ble_eq_true rfl, Nat.le_of_ble_eq_true rfl⟩ rfl [] rfl rfl (Nat.le_of_ble_eq_true rfl) dX11_need_5 hF (fun M1 r2 hF => ?_)
  refine r_istore_n (pc := 8) (L1 := [(2, .int r2), (0, .ref a0), (1, .int a1)]) dX11_need_8 rfl (by decide) rfl ?_
  refine r_iload_n (pc := 9) 0 dX11_need_9 rfl rfl ?_
  refine r_if_eq (pc := 10) (tgt := 21) dX11_need_10 rfl hF (fun hF => ?_) (fun hF => ?_)
  · refine r_aload_n (pc := 21) 1 dX11_need_21 rfl rfl ?_
    refine gf_X11_10 (pc := 22) (j := 0) rfl dX11_need_22 ?_
    refine r_lr (by decide) hF (fun b3 hF => ?_)
    refine r_iload_n (pc := 25) 2 dX11_need_25 rfl rfl ?_
    refine r_callV_J (pc := 26) (Py := P_X10_needOf) (n := 1) (As := [.int a1]) (fun q e => k_X10_needOf G _ b3 a1 q e) (c := 11) (Tb := TX10) (N := 4) rfl (by decide) (j0 := 0) rfl tw_711 tw_331 tw_332 tw_61 tw_333 hd_X10_needOf ⟨Nat.le_of_ble_eq_true rfl, Nat.le_of_ble_eq_true rfl⟩ rfl [0] rfl rfl (Nat.le_of_ble_eq_true rfl) dX11_need_26 hF (fun M4 r5 hF => ?_)
    exact T.sub ((w_X11_need_p29) M4 r5 hF) [] [] rfl rfl
  · refine r_aload_n (pc := 13) 1 dX11_need_13 rfl rfl ?_
    refine r_iload_n (pc := 14) 0 dX11_need_14 rfl rfl ?_
    refine r_callV_J (pc := 15) (Py := P_X11_refuseLong) (n := 1) (As := [.int r2]) (fun q e => k_X11_refuseLong G _ a0 r2 q e) (c := 12) (Tb := TX11) (N := 11) rfl (by decide) (j0 := 0) rfl tw_646 tw_648 tw_10 tw_60 tw_649 hd_X11_refuseLong ⟨Nat.le_of_ble_eq_true rfl, Nat.le_of_ble_eq_true rfl⟩ rfl [0] rfl rfl (Nat.le_of_ble_eq_true rfl) dX11_need_15 hF (fun M6 r7 hF => ?_)
    refine r_goto (pc := 18) (tgt := 29) dX11_need_18 rfl ?_
    exact T.sub ((w_X11_need_p29) M6 r7 hF) [] [] rfl rfl
theorem k_X11_need (G : EG) (M : Mem) (a0 : Nat) (a1 : Int32) (q : Mem × Int64) (h : F_X11_need M a0 a1 = some q) : Kt yX11_need P_X11_need M [(a0, 13)] [.ref a0, .int a1] (RJ G q) := Kt.of (by decide +kernel) rfl (Nat.le_of_ble_eq_true rfl) rfl (fun X hz => w_X11_need M a0 a1 h)
set_option maxHeartbeats 4000000 in
theorem w_X11_open {X : Option Cx} {G : EG} {res : Mem × Int32} (M : Mem) (a0 : Nat) (a1 : Int32) (a2 : Int32) (hF : F_X11_open M a0 a1 a2 = some res) : T X (RI G res) P_X11_open M [(a0, 13)] [(0, .ref a0), (1, .int a1), (2, .int a2)] [] 0 := by
  unfold F_X11_open at hF
  refine r_aload_n (pc := 0) 0 dX11_open_0 rfl rfl ?_
  refine gf_X11_49 (pc := 1) (j := 0) rfl dX11_open_1 ?_
  refine r_lr (by decide) hF (fun b1 hF => ?_)
  refine r_iload_n (pc := 4) 1 dX11_open_4 rfl rfl ?_
  refine r_callV_R (pc := 5) (Py := P_X1_find) (n := 1) (As := [.int a1]) (fun q e => k_X1_find G _ b1 a1 q e) (c := 2) (Tb := TX1) (N := 7) rfl (by decide) (j0 := 0) rfl tw_624 tw_625 tw_626 tw_69 tw_627 hd_X1_find ⟨Nat.le_of_ble_eq_true rfl, Nat.le_of_ble_eq_true rfl⟩ rfl [0] rfl rfl (Nat.le_of_ble_eq_true rfl) dX11_open_5 hF (fun M2 r3 hF => ?_)
  refine r_astoreo_n (pc := 8) (r := r3) (L1 := [(3, va_rf r3), (0, .ref a0), (1, .int a1), (2, .int a2)]) dX11_open_8 rfl (by decide) rfl ?_
  refine r_aloado_n (pc := 9) 0 dX11_open_9 rfl rfl ?_
  refine r_ifnonnull (pc := 10) (tgt := 19) dX11_open_10 rfl hF (fun e9 h0 => ?_) (fun b4 e9 h0 => ?_)
  · clear hF
    subst e9
    have hF := h0
    clear h0
    refine r_aload_n (pc := 13) 1 dX11_open_13 rfl rfl ?_
    refine r_iconst (pc := 14) (w := -1) dX11_open_14 (by decide) ?_
    refine r_callV_I (pc := 15) (Py := P_X11_refuse) (n := 1) (As := [.int ((-1 : Int32))]) (fun q e => k_X11_refuse G _ a0 (-1 : Int32) q e) (c := 12) (Tb := TX11) (N := 11) rfl (by decide) (j0 := 1) rfl tw_322 tw_324 tw_0 tw_60 tw_325 hd_X11_refuse ⟨Nat.le_of_ble_eq_true rfl, Nat.le_of_ble_eq_true rfl⟩ rfl [1] rfl rfl (Nat.le_of_ble_eq_true rfl) dX11_open_15 hF (fun M5 r6 hF => ?_)
    exact r_iret (pc := 18) dX11_open_18 hF
  · clear hF
    subst e9
    have hF := h0
    clear h0
    refine r_aload_n (pc := 19) 0 dX11_open_19 rfl rfl ?_
    refine r_kind (by decide) hF (fun hF => ?_)
    refine gf_X11_111 (pc := 20) (j := 0) rfl dX11_open_20 ?_
    refine r_iload_n (pc := 23) 3 dX11_open_23 rfl rfl ?_
    refine r_icmp_ne (pc := 24) (tgt := 29) dX11_open_24 rfl hF (fun hF => ?_) (fun hF => ?_)
    · refine r_aload_n (pc := 29) 0 dX11_open_29 rfl rfl ?_
      refine r_iload_n (pc := 30) 3 dX11_open_30 rfl rfl ?_
      refine pf_X11_111 (pc := 31) (j := 0) rfl dX11_open_31 hF (fun M7 hF => ?_)
      refine r_iconst (pc := 34) (w := 1) dX11_open_34 (by decide) ?_
      exact r_iret (pc := 35) dX11_open_35 hF
    · refine r_iconst (pc := 27) (w := 0) dX11_open_27 (by decide) ?_
      exact r_iret (pc := 28) dX11_open_28 hF
theorem k_X11_open (G : EG) (M : Mem) (a0 : Nat) (a1 : Int32) (a2 : Int32) (q : Mem × Int32) (h : F_X11_open M a0 a1 a2 = some q) : Kt yX11_open P_X11_open M [(a0, 13)] [.ref a0, .int a1, .int a2] (RI G q) := Kt.of (by decide +kernel) rfl (Nat.le_of_ble_eq_true rfl) rfl (fun X hz => w_X11_open M a0 a1 a2 h)
set_option maxHeartbeats 4000000 in
theorem w_X7_addPoint_p61 {X : Option Cx} {G : EG} {res : Mem × Unit} : ∀ (M : Mem), F_X7_addPoint_p61 M = some res → T X (RV G res) P_X7_addPoint M [] [] [] 61 := by
  intro M hF
  unfold F_X7_addPoint_p61 at hF
  exact r_vret (pc := 61) dX7_addPoint_61 hF
set_option maxHeartbeats 4000000 in
theorem w_X7_addPoint {X : Option Cx} {G : EG} {res : Mem × Unit} (M : Mem) (a0 : Nat) (a1 : Int32) (a2 : Int32) (hF : F_X7_addPoint M a0 a1 a2 = some res) : T X (RV G res) P_X7_addPoint M [(a0, 9)] [(0, .ref a0), (1, .int a1), (2, .int a2)] [] 0 := by
  unfold F_X7_addPoint at hF
  refine r_aload_n (pc := 0) 0 dX7_addPoint_0 rfl rfl ?_
  refine gf_X7_18 (pc := 1) (j := 0) rfl dX7_addPoint_1 ?_
  refine r_if_lt (pc := 4) (tgt := 61) dX7_addPoint_4 rfl hF (fun hF => ?_) (fun hF => ?_)
  · exact T.sub ((w_X7_addPoint_p61) M hF) [] [] rfl rfl
  · refine r_aload_n (pc := 7) 0 dX7_addPoint_7 rfl rfl ?_
    refine gf_X7_18 (pc := 8) (j := 0) rfl dX7_addPoint_8 ?_
    refine r_aload_n (pc := 11) 0 dX7_addPoint_11 rfl rfl ?_
    refine gf_X7_9 (pc := 12) (j := 0) rfl dX7_addPoint_12 ?_
    refine r_lr (by decide) hF (fun b1 hF => ?_)
    refine r_alen (pc := 15) (j := 0) rfl (by decide) dX7_addPoint_15 ?_
    refine r_icmp_ge (pc := 16) (tgt := 61) dX7_addPoint_16 rfl hF (fun hF => ?_) (fun hF => ?_)
    · exact T.sub ((w_X7_addPoint_p61) M hF) [] [] rfl rfl
    · refine r_aload_n (pc := 19) 0 dX7_addPoint_19 rfl rfl ?_
      refine gf_X7_18 (pc := 20) (j := 1) rfl dX7_addPoint_20 ?_
      refine r_aload_n (pc := 23) 0 dX7_addPoint_23 rfl rfl ?_
      refine gf_X7_15 (pc := 24) (j := 1) rfl dX7_addPoint_24 ?_
      refine r_lr (by decide) hF (fun b2 hF => ?_)
      refine r_alen (pc := 27) (j := 0) rfl (by decide) dX7_addPoint_27 ?_
      refine r_icmp_ge (pc := 28) (tgt := 61) dX7_addPoint_28 rfl hF (fun hF => ?_) (fun hF => ?_)
      · exact T.sub ((w_X7_addPoint_p61) M hF) [] [] rfl rfl
      · refine r_aload_n (pc := 31) 0 dX7_addPoint_31 rfl rfl ?_
        refine gf_X7_9 (pc := 32) (j := 2) rfl dX7_addPoint_32 ?_
        refine r_lr (by decide) hF (fun b3 hF => ?_)
        refine r_aload_n (pc := 35) 0 dX7_addPoint_35 rfl rfl ?_
        refine gf_X7_18 (pc := 36) (j := 3) rfl dX7_addPoint_36 ?_
        refine r_iload_n (pc := 39) 1 dX7_addPoint_39 rfl rfl ?_
        refine r_iast (pc := 40) (j := 0) rfl dX7_addPoint_40 hF (fun M4 hF => ?_)
        refine r_aload_n (pc := 41) 0 dX7_addPoint_41 rfl rfl ?_
        refine gf_X7_15 (pc := 42) (j := 3) rfl dX7_addPoint_42 ?_
        refine r_lr (by decide) hF (fun b5 hF => ?_)
        refine r_aload_n (pc := 45) 0 dX7_addPoint_45 rfl rfl ?_
        refine gf_X7_18 (pc := 46) (j := 4) rfl dX7_addPoint_46 ?_
        refine r_iload_n (pc := 49) 2 dX7_addPoint_49 rfl rfl ?_
        refine r_iast (pc := 50) (j := 0) rfl dX7_addPoint_50 hF (fun M6 hF => ?_)
        refine r_aload_n (pc := 51) 0 dX7_addPoint_51 rfl rfl ?_
        refine r_dup (pc := 52) dX7_addPoint_52 rfl ?_
        refine gf_X7_18 (pc := 53) (j := 4) rfl dX7_addPoint_53 ?_
        refine r_iconst (pc := 56) (w := 1) dX7_addPoint_56 (by decide) ?_
        refine r_iadd (pc := 57) dX7_addPoint_57 ?_
        refine pf_X7_18 (pc := 58) (j := 4) rfl dX7_addPoint_58 hF (fun M7 hF => ?_)
        exact T.sub ((w_X7_addPoint_p61) M7 hF) [] [] rfl rfl
theorem k_X7_addPoint (G : EG) (M : Mem) (a0 : Nat) (a1 : Int32) (a2 : Int32) (q : Mem × Unit) (h : F_X7_addPoint M a0 a1 a2 = some q) : Kt yX7_addPoint P_X7_addPoint M [(a0, 9)] [.ref a0, .int a1, .int a2] (RV G q) := Kt.of (by decide +kernel) rfl (Nat.le_of_ble_eq_true rfl) rfl (fun X hz => w_X7_addPoint M a0 a1 a2 h)
set_option maxHeartbeats 4000000 in
theorem w_X7_isAboveLast_p35 {X : Option Cx} {G : EG} {res : Mem × Int32} : ∀ (M : Mem) (y0 : Int32), F_X7_isAboveLast_p35 M y0 = some res → T X (RI G res) P_X7_isAboveLast M [] [] [.int y0] 35 := by
  intro M y0 hF
  unfold F_X7_isAboveLast_p35 at hF
  exact r_zret (pc := 35) dX7_isAboveLast_35 hF
set_option maxHeartbeats 4000000 in
theorem w_X7_isAboveLast_p30 {X : Option Cx} {G : EG} {res : Mem × Int32} : ∀ (M : Mem), F_X7_isAboveLast_p30 M = some res → T X (RI G res) P_X7_isAboveLast M [] [] [] 30 := by
  intro M hF
  unfold F_X7_isAboveLast_p30 at hF
  refine r_iconst (pc := 30) (w := 1) dX7_isAboveLast_30 (by decide) ?_
  refine r_goto (pc := 31) (tgt := 35) dX7_isAboveLast_31 rfl ?_
  exact T.sub ((w_X7_isAboveLast_p35) M (1 : Int32) hF) [] [] rfl rfl
set_option maxHeartbeats 4000000 in
theorem w_X7_isAboveLast {X : Option Cx} {G : EG} {res : Mem × Int32} (M : Mem) (a0 : Nat) (a1 : Int32) (hF : F_X7_isAboveLast M a0 a1 = some res) : T X (RI G res) P_X7_isAboveLast M [(a0, 9)] [(0, .ref a0), (1, .int a1)] [] 0 := by
  unfold F_X7_isAboveLast at hF
  refine r_aload_n (pc := 0) 0 dX7_isAboveLast_0 rfl rfl ?_
  refine gf_X7_18 (pc := 1) (j := 0) rfl dX7_isAboveLast_1 ?_
  refine r_iconst (pc := 4) (w := 1) dX7_isAboveLast_4 (by decide) ?_
  refine r_isub (pc := 5) dX7_isAboveLast_5 ?_
  refine r_gI (pc := 6) hF (fun v1 hF => ?_)
  refine r_istore_n (pc := 6) (L1 := [(2, .int v1), (0, .ref a0), (1, .int a1)]) dX7_isAboveLast_6 rfl (by decide) rfl ?_
  refine r_iload_n (pc := 7) 0 dX7_isAboveLast_7 rfl rfl ?_
  refine r_if_lt (pc := 8) (tgt := 30) dX7_isAboveLast_8 rfl hF (fun hF => ?_) (fun hF => ?_)
  · exact T.sub ((w_X7_isAboveLast_p30) M hF) [] [] rfl rfl
  · refine r_iload_n (pc := 11) 0 dX7_isAboveLast_11 rfl rfl ?_
    refine r_aload_n (pc := 12) 1 dX7_isAboveLast_12 rfl rfl ?_
    refine gf_X7_9 (pc := 13) (j := 0) rfl dX7_isAboveLast_13 ?_
    refine r_lr (by decide) hF (fun b2 hF => ?_)
    refine r_alen (pc := 16) (j := 0) rfl (by decide) dX7_isAboveLast_16 ?_
    refine r_icmp_ge (pc := 17) (tgt := 30) dX7_isAboveLast_17 rfl hF (fun hF => ?_) (fun hF => ?_)
    · exact T.sub ((w_X7_isAboveLast_p30) M hF) [] [] rfl rfl
    · refine r_iload_n (pc := 20) 2 dX7_isAboveLast_20 rfl rfl ?_
      refine r_aload_n (pc := 21) 1 dX7_isAboveLast_21 rfl rfl ?_
      refine gf_X7_9 (pc := 22) (j := 1) rfl dX7_isAboveLast_22 ?_
      refine r_lr (by decide) hF (fun b3 hF => ?_)
      refine r_iload_n (pc := 25) 0 dX7_isAboveLast_25 rfl rfl ?_
      refine r_iald (pc := 26) (j := 0) rfl dX7_isAboveLast_26 hF (fun hF => ?_)
      refine r_icmp_le (pc := 27) (tgt := 34) dX7_isAboveLast_27 rfl hF (fun hF => ?_) (fun hF => ?_)
      · refine r_iconst (pc := 34) (w := 0) dX7_isAboveLast_34 (by decide) ?_
        exact T.sub ((w_X7_isAboveLast_p35) M (0 : Int32) hF) [] [] rfl rfl
      · exact T.sub ((w_X7_isAboveLast_p30) M hF) [] [] rfl rfl
theorem k_X7_isAboveLast (G : EG) (M : Mem) (a0 : Nat) (a1 : Int32) (q : Mem × Int32) (h : F_X7_isAboveLast M a0 a1 = some q) : Kt yX7_isAboveLast P_X7_isAboveLast M [(a0, 9)] [.ref a0, .int a1] (RI G q) := Kt.of (by decide +kernel) rfl (Nat.le_of_ble_eq_true rfl) rfl (fun X hz => w_X7_isAboveLast M a0 a1 h)
