set_option maxHeartbeats 4000000 in
theorem w_X11_point_p23 {X : Option Cx} {G : EG} {res : Mem × Int32} : ∀ (M : Mem) (x0 : Nat), F_X11_point_p23 M x0 = some res → T X (RI G res) P_X11_point M [(x0, 13)] [(0, .ref x0)] [] 23 := by
  intro M x0 hF
  unfold F_X11_point_p23 at hF
  refine r_aload_n (pc := 23) 0 dX11_point_23 rfl rfl ?_
  refine r_bipush (pc := 24) (w := -4) dX11_point_24 (by decide) ?_
  refine r_callV_I (pc := 26) (Py := P_X11_refuse) (n := 1) (As := [.int ((-4 : Int32))]) (fun q e => k_X11_refuse G _ x0 (-4 : Int32) q e) (c := 12) (Tb := TX11) (N := 11) rfl (by decide) (j0 := 0) rfl tw_322 tw_324 tw_0 tw_60 tw_325 hd_X11_refuse ⟨Nat.le_of_ble_eq_true rfl, Nat.le_of_ble_eq_true rfl⟩ rfl [0] rfl rfl (Nat.le_of_ble_eq_true rfl) dX11_point_26 hF (fun M1 r2 hF => ?_)
  exact r_iret (pc := 29) dX11_point_29 hF
set_option maxHeartbeats 4000000 in
theorem w_X11_point_p55 {X : Option Cx} {G : EG} {res : Mem × Int32} : ∀ (M : Mem) (x0 : Nat), F_X11_point_p55 M x0 = some res → T X (RI G res) P_X11_point M [(x0, 13)] [(0, .ref x0)] [] 55 := by
  intro M x0 hF
  unfold F_X11_point_p55 at hF
  refine r_aload_n (pc := 55) 0 dX11_point_55 rfl rfl ?_
  refine r_bipush (pc := 56) (w := -6) dX11_point_56 (by decide) ?_
  refine r_callV_I (pc := 58) (Py := P_X11_refuse) (n := 1) (As := [.int ((-6 : Int32))]) (fun q e => k_X11_refuse G _ x0 (-6 : Int32) q e) (c := 12) (Tb := TX11) (N := 11) rfl (by decide) (j0 := 0) rfl tw_322 tw_324 tw_0 tw_60 tw_325 hd_X11_refuse ⟨Nat.le_of_ble_eq_true rfl, Nat.le_of_ble_eq_true rfl⟩ rfl [0] rfl rfl (Nat.le_of_ble_eq_true rfl) dX11_point_58 hF (fun M1 r2 hF => ?_)
  exact r_iret (pc := 61) dX11_point_61 hF
set_option maxHeartbeats 4000000 in
theorem w_X11_point {X : Option Cx} {G : EG} {res : Mem × Int32} (M : Mem) (a0 : Nat) (a1 : Int32) (a2 : Int32) (hF : F_X11_point M a0 a1 a2 = some res) : T X (RI G res) P_X11_point M [(a0, 13)] [(0, .ref a0), (1, .int a1), (2, .int a2)] [] 0 := by
  unfold F_X11_point at hF
  refine r_iload_n (pc := 0) 1 dX11_point_0 rfl rfl ?_
  refine r_bipush (pc := 1) (w := -20) dX11_point_1 (by decide) ?_
  refine r_icmp_lt (pc := 3) (tgt := 23) dX11_point_3 rfl hF (fun hF => ?_) (fun hF => ?_)
  · exact T.sub ((w_X11_point_p23) M a0 hF) [0] [0] rfl rfl
  · refine r_iload_n (pc := 6) 2 dX11_point_6 rfl rfl ?_
    refine r_bipush (pc := 7) (w := 100) dX11_point_7 (by decide) ?_
    refine r_icmp_lt (pc := 9) (tgt := 23) dX11_point_9 rfl hF (fun hF => ?_) (fun hF => ?_)
    · exact T.sub ((w_X11_point_p23) M a0 hF) [0] [0] rfl rfl
    · refine r_aload_n (pc := 12) 0 dX11_point_12 rfl rfl ?_
      refine gf_X11_19 (pc := 13) (j := 0) rfl dX11_point_13 ?_
      refine r_lr (by decide) hF (fun b1 hF => ?_)
      refine r_iload_n (pc := 16) 1 dX11_point_16 rfl rfl ?_
      refine r_callV_I (pc := 17) (Py := P_X7_isAboveLast) (n := 1) (As := [.int a1]) (fun q e => k_X7_isAboveLast G _ b1 a1 q e) (c := 8) (Tb := TX7) (N := 3) rfl (by decide) (j0 := 0) rfl tw_716 tw_717 tw_718 tw_65 tw_719 hd_X7_isAboveLast ⟨Nat.le_of_ble_eq_true rfl, Nat.le_of_ble_eq_true rfl⟩ rfl [0] rfl rfl (Nat.le_of_ble_eq_true rfl) dX11_point_17 hF (fun M2 r3 hF => ?_)
      refine r_if_ne (pc := 20) (tgt := 30) dX11_point_20 rfl hF (fun hF => ?_) (fun hF => ?_)
      · refine r_iload_n (pc := 30) 1 dX11_point_30 rfl rfl ?_
        refine r_bipush (pc := 31) (w := 99) dX11_point_31 (by decide) ?_
        refine r_icmp_gt (pc := 33) (tgt := 55) dX11_point_33 rfl hF (fun hF => ?_) (fun hF => ?_)
        · exact T.sub ((w_X11_point_p55) M2 a0 hF) [1] [0] rfl rfl
        · refine r_iload_n (pc := 36) 2 dX11_point_36 rfl rfl ?_
          refine r_sipush (pc := 37) (w := 999) dX11_point_37 (by decide) ?_
          refine r_icmp_gt (pc := 40) (tgt := 55) dX11_point_40 rfl hF (fun hF => ?_) (fun hF => ?_)
          · exact T.sub ((w_X11_point_p55) M2 a0 hF) [1] [0] rfl rfl
          · refine r_aload_n (pc := 43) 0 dX11_point_43 rfl rfl ?_
            refine gf_X11_19 (pc := 44) (j := 1) rfl dX11_point_44 ?_
            refine r_lr (by decide) hF (fun b4 hF => ?_)
            refine gf_X11_174 (pc := 47) (j := 0) rfl dX11_point_47 ?_
            refine r_bipush (pc := 50) (w := 8) dX11_point_50 (by decide) ?_
            refine r_icmp_lt (pc := 52) (tgt := 62) dX11_point_52 rfl hF (fun hF => ?_) (fun hF => ?_)
            · refine r_aload_n (pc := 62) 0 dX11_point_62 rfl rfl ?_
              refine gf_X11_19 (pc := 63) (j := 2) rfl dX11_point_63 ?_
              refine r_lr (by decide) hF (fun b5 hF => ?_)
              refine r_iload_n (pc := 66) 1 dX11_point_66 rfl rfl ?_
              refine r_iload_n (pc := 67) 2 dX11_point_67 rfl rfl ?_
              refine r_callV_V (pc := 68) (Py := P_X7_addPoint) (n := 2) (As := [.int a1, .int a2]) (fun q e => k_X7_addPoint G _ b5 a1 a2 q e) (c := 8) (Tb := TX7) (N := 3) rfl (by decide) (j0 := 0) rfl tw_720 tw_721 tw_722 tw_65 tw_723 hd_X7_addPoint ⟨Nat.le_of_ble_eq_true rfl, Nat.le_of_ble_eq_true rfl⟩ rfl [0] rfl rfl (Nat.le_of_ble_eq_true rfl) dX11_point_68 hF (fun M6 r7 hF => ?_)
              refine r_aload_n (pc := 71) 0 dX11_point_71 rfl rfl ?_
              refine gf_X11_19 (pc := 72) (j := 3) rfl dX11_point_72 ?_
              refine r_lr (by decide) hF (fun b8 hF => ?_)
              refine gf_X11_174 (pc := 75) (j := 0) rfl dX11_point_75 ?_
              exact r_iret (pc := 78) dX11_point_78 hF
            · exact T.sub ((w_X11_point_p55) M2 a0 hF) [2] [0] rfl rfl
      · exact T.sub ((w_X11_point_p23) M2 a0 hF) [1] [0] rfl rfl
theorem k_X11_point (G : EG) (M : Mem) (a0 : Nat) (a1 : Int32) (a2 : Int32) (q : Mem × Int32) (h : F_X11_point M a0 a1 a2 = some q) : Kt yX11_point P_X11_point M [(a0, 13)] [.ref a0, .int a1, .int a2] (RI G q) := Kt.of (by decide +kernel) rfl (Nat.le_of_ble_eq_true rfl) rfl (fun X hz => w_X11_point M a0 a1 a2 h)
set_option maxHeartbeats 4000000 in
theorem w_X11_price_p43 {X : Option Cx} {G : EG} {res : Mem × Int32} : ∀ (M : Mem) (y0 : Int32), F_X11_price_p43 M y0 = some res → T X (RI G res) P_X11_price M [] [] [.int y0] 43 := by
  intro M y0 hF
  unfold F_X11_price_p43 at hF
  exact r_iret (pc := 43) dX11_price_43 hF
set_option maxHeartbeats 4000000 in
theorem w_X11_price {X : Option Cx} {G : EG} {res : Mem × Int32} (M : Mem) (a0 : Nat) (a1 : Int32) (a2 : Int32) (hF : F_X11_price M a0 a1 a2 = some res) : T X (RI G res) P_X11_price M [(a0, 13)] [(0, .ref a0), (1, .int a1), (2, .int a2)] [] 0 := by
  unfold F_X11_price at hF
  refine r_iload_n (pc := 0) 1 dX11_price_0 rfl rfl ?_
  refine r_iconst (pc := 1) (w := 0) dX11_price_1 (by decide) ?_
  refine r_bipush (pc := 2) (w := 23) dX11_price_2 (by decide) ?_
  refine r_callS_I (pc := 4) (Py := P_X11_beyond) (n := 3) (As := [.int a1, .int ((0 : Int32)), .int ((23 : Int32))]) (fun q e => k_X11_beyond G _ a1 (0 : Int32) (23 : Int32) q e) tw_319 tw_320 tw_60 tw_321 hd_X11_beyond ⟨Nat.le_of_ble_eq_true rfl, Nat.le_of_ble_eq_true rfl⟩ rfl [] rfl rfl (Nat.le_of_ble_eq_true rfl) dX11_price_4 hF (fun M1 r2 hF => ?_)
  refine r_iload_n (pc := 7) 2 dX11_price_7 rfl rfl ?_
  refine r_iconst (pc := 8) (w := 0) dX11_price_8 (by decide) ?_
  refine r_sipush (pc := 9) (w := 999) dX11_price_9 (by decide) ?_
  refine r_callS_I (pc := 12) (Py := P_X11_beyond) (n := 3) (As := [.int a2, .int ((0 : Int32)), .int ((999 : Int32))]) (fun q e => k_X11_beyond G _ a2 (0 : Int32) (999 : Int32) q e) tw_319 tw_320 tw_60 tw_321 hd_X11_beyond ⟨Nat.le_of_ble_eq_true rfl, Nat.le_of_ble_eq_true rfl⟩ rfl [] rfl rfl (Nat.le_of_ble_eq_true rfl) dX11_price_12 hF (fun M3 r4 hF => ?_)
  refine r_callS_I (pc := 15) (Py := P_X11_firstOf) (n := 2) (As := [.int r2, .int r4]) (fun q e => k_X11_firstOf G _ r2 r4 q e) tw_700 tw_701 tw_60 tw_702 hd_X11_firstOf ⟨Nat.le_of_ble_eq_true rfl, Nat.le_of_ble_eq_true rfl⟩ rfl [] rfl rfl (Nat.le_of_ble_eq_true rfl) dX11_price_15 hF (fun M5 r6 hF => ?_)
  refine r_istore_n (pc := 18) (L1 := [(3, .int r6), (0, .ref a0), (1, .int a1), (2, .int a2)]) dX11_price_18 rfl (by decide) rfl ?_
  refine r_iload_n (pc := 19) 0 dX11_price_19 rfl rfl ?_
  refine r_if_eq (pc := 20) (tgt := 31) dX11_price_20 rfl hF (fun hF => ?_) (fun hF => ?_)
  · refine r_aload_n (pc := 31) 1 dX11_price_31 rfl rfl ?_
    refine gf_X11_10 (pc := 32) (j := 0) rfl dX11_price_32 ?_
    refine r_lr (by decide) hF (fun b7 hF => ?_)
    refine gf_X11_186 (pc := 35) (j := 0) rfl dX11_price_35 ?_
    refine r_lr (by decide) hF (fun b8 hF => ?_)
    refine r_iload_n (pc := 38) 2 dX11_price_38 rfl rfl ?_
    refine r_iload_n (pc := 39) 3 dX11_price_39 rfl rfl ?_
    refine r_callS_I (pc := 40) (Py := P_X11_replace) (n := 3) (As := [.ref b8, .int a1, .int a2]) (fun q e => k_X11_replace G _ b8 a1 a2 q e) tw_704 tw_705 tw_60 tw_706 hd_X11_replace ⟨Nat.le_of_ble_eq_true rfl, Nat.le_of_ble_eq_true rfl⟩ rfl [0] rfl rfl (Nat.le_of_ble_eq_true rfl) dX11_price_40 hF (fun M9 r10 hF => ?_)
    exact T.sub ((w_X11_price_p43) M9 r10 hF) [] [] rfl rfl
  · refine r_aload_n (pc := 23) 1 dX11_price_23 rfl rfl ?_
    refine r_iload_n (pc := 24) 0 dX11_price_24 rfl rfl ?_
    refine r_callV_I (pc := 25) (Py := P_X11_refuse) (n := 1) (As := [.int r6]) (fun q e => k_X11_refuse G _ a0 r6 q e) (c := 12) (Tb := TX11) (N := 11) rfl (by decide) (j0 := 0) rfl tw_322 tw_324 tw_0 tw_60 tw_325 hd_X11_refuse ⟨Nat.le_of_ble_eq_true rfl, Nat.le_of_ble_eq_true rfl⟩ rfl [0] rfl rfl (Nat.le_of_ble_eq_true rfl) dX11_price_25 hF (fun M11 r12 hF => ?_)
    refine r_goto (pc := 28) (tgt := 43) dX11_price_28 rfl ?_
    exact T.sub ((w_X11_price_p43) M11 r12 hF) [] [] rfl rfl
theorem k_X11_price (G : EG) (M : Mem) (a0 : Nat) (a1 : Int32) (a2 : Int32) (q : Mem × Int32) (h : F_X11_price M a0 a1 a2 = some q) : Kt yX11_price P_X11_price M [(a0, 13)] [.ref a0, .int a1, .int a2] (RI G q) := Kt.of (by decide +kernel) rfl (Nat.le_of_ble_eq_true rfl) rfl (fun X hz => w_X11_price M a0 a1 a2 h)
set_option maxHeartbeats 4000000 in
theorem w_X3_init {X : Option Cx} {G : EG} {res : Mem × Unit} (hzi : ∀ x, X = some x → Zi x) (M : Mem) (a0 : Nat) (a1 : Int32) (a2 : Int32) (a3 : Int64) (hF : F_X3_init M a0 a1 a2 a3 = some res) : T X (RV G res) P_X3_init M [(a0, 5)] [(0, .ref a0), (1, .int a1), (2, .int a2), (3, .long a3)] [] 0 := by
  unfold F_X3_init at hF
  refine r_aload_n (pc := 0) 0 dX3_init_0 rfl rfl ?_
  refine r_objInit (pc := 1) tw_1045 tw_93 tw_94 ⟨Nat.le_of_ble_eq_true rfl, Nat.le_of_ble_eq_true rfl⟩ (Nat.le_of_ble_eq_true rfl) dX3_init_1 ?_
  refine r_aload_n (pc := 4) 0 dX3_init_4 rfl rfl ?_
  refine r_iload_n (pc := 5) 1 dX3_init_5 rfl rfl ?_
  refine pf_X3_7 (pc := 6) hzi (j := 0) rfl dX3_init_6 hF (fun M1 hF => ?_)
  refine r_aload_n (pc := 9) 0 dX3_init_9 rfl rfl ?_
  refine r_iload_n (pc := 10) 2 dX3_init_10 rfl rfl ?_
  refine pf_X3_13 (pc := 11) hzi (j := 0) rfl dX3_init_11 hF (fun M2 hF => ?_)
  refine r_aload_n (pc := 14) 0 dX3_init_14 rfl rfl ?_
  refine r_lload_n (pc := 15) 3 dX3_init_15 rfl rfl ?_
  refine pf_X3_16 (pc := 16) hzi (j := 0) rfl dX3_init_16 hF (fun M3 hF => ?_)
  exact r_vret (pc := 19) dX3_init_19 hF
theorem k_X3_init (G : EG) (M : Mem) (a0 : Nat) (a1 : Int32) (a2 : Int32) (a3 : Int64) (q : Mem × Unit) (h : F_X3_init M a0 a1 a2 a3 = some q) : Kt yX3_init P_X3_init M [(a0, 5)] [.ref a0, .int a1, .int a2, .long a3] (RV G q) := Kt.of (by decide +kernel) rfl (Nat.le_of_ble_eq_true rfl) rfl (fun X hz => w_X3_init (fun x hx => hz x hx rfl) M a0 a1 a2 a3 h)
set_option maxHeartbeats 4000000 in
theorem w_X11_reading_p54 {X : Option Cx} {G : EG} {res : Mem × Int32} : ∀ (M : Mem) (x0 : Nat), F_X11_reading_p54 M x0 = some res → T X (RI G res) P_X11_reading M [(x0, 13)] [(0, .ref x0)] [] 54 := by
  intro M x0 hF
  unfold F_X11_reading_p54 at hF
  refine r_aload_n (pc := 54) 0 dX11_reading_54 rfl rfl ?_
  refine r_bipush (pc := 55) (w := -6) dX11_reading_55 (by decide) ?_
  refine r_callV_I (pc := 57) (Py := P_X11_refuse) (n := 1) (As := [.int ((-6 : Int32))]) (fun q e => k_X11_refuse G _ x0 (-6 : Int32) q e) (c := 12) (Tb := TX11) (N := 11) rfl (by decide) (j0 := 0) rfl tw_322 tw_324 tw_0 tw_60 tw_325 hd_X11_refuse ⟨Nat.le_of_ble_eq_true rfl, Nat.le_of_ble_eq_true rfl⟩ rfl [0] rfl rfl (Nat.le_of_ble_eq_true rfl) dX11_reading_57 hF (fun M1 r2 hF => ?_)
  exact r_iret (pc := 60) dX11_reading_60 hF
set_option maxHeartbeats 4000000 in
theorem w_X11_reading {X : Option Cx} {G : EG} {res : Mem × Int32} (M : Mem) (a0 : Nat) (a1 : Int32) (a2 : Int32) (hF : F_X11_reading M a0 a1 a2 = some res) : T X (RI G res) P_X11_reading M [(a0, 13)] [(0, .ref a0), (1, .int a1), (2, .int a2)] [] 0 := by
  unfold F_X11_reading at hF
  refine r_aload_n (pc := 0) 0 dX11_reading_0 rfl rfl ?_
  refine gf_X11_49 (pc := 1) (j := 0) rfl dX11_reading_1 ?_
  refine r_lr (by decide) hF (fun b1 hF => ?_)
  refine r_iload_n (pc := 4) 1 dX11_reading_4 rfl rfl ?_
  refine r_callV_R (pc := 5) (Py := P_X1_find) (n := 1) (As := [.int a1]) (fun q e => k_X1_find G _ b1 a1 q e) (c := 2) (Tb := TX1) (N := 7) rfl (by decide) (j0 := 0) rfl tw_624 tw_625 tw_626 tw_69 tw_627 hd_X1_find ⟨Nat.le_of_ble_eq_true rfl, Nat.le_of_ble_eq_true rfl⟩ rfl [0] rfl rfl (Nat.le_of_ble_eq_true rfl) dX11_reading_5 hF (fun M2 r3 hF => ?_)
  refine r_astoreo_n (pc := 8) (r := r3) (L1 := [(3, va_rf r3), (0, .ref a0), (1, .int a1), (2, .int a2)]) dX11_reading_8 rfl (by decide) rfl ?_
  refine r_aloado_n (pc := 9) 0 dX11_reading_9 rfl rfl ?_
  refine r_ifnonnull (pc := 10) (tgt := 19) dX11_reading_10 rfl hF (fun e9 h0 => ?_) (fun b4 e9 h0 => ?_)
  · clear hF
    subst e9
    have hF := h0
    clear h0
    refine r_aload_n (pc := 13) 1 dX11_reading_13 rfl rfl ?_
    refine r_iconst (pc := 14) (w := -1) dX11_reading_14 (by decide) ?_
    refine r_callV_I (pc := 15) (Py := P_X11_refuse) (n := 1) (As := [.int ((-1 : Int32))]) (fun q e => k_X11_refuse G _ a0 (-1 : Int32) q e) (c := 12) (Tb := TX11) (N := 11) rfl (by decide) (j0 := 1) rfl tw_322 tw_324 tw_0 tw_60 tw_325 hd_X11_refuse ⟨Nat.le_of_ble_eq_true rfl, Nat.le_of_ble_eq_true rfl⟩ rfl [1] rfl rfl (Nat.le_of_ble_eq_true rfl) dX11_reading_15 hF (fun M5 r6 hF => ?_)
    exact r_iret (pc := 18) dX11_reading_18 hF
  · clear hF
    subst e9
    have hF := h0
    clear h0
    refine r_aload_n (pc := 19) 1 dX11_reading_19 rfl rfl ?_
    refine gf_X11_59 (pc := 20) (j := 1) rfl dX11_reading_20 ?_
    refine r_lr (by decide) hF (fun b7 hF => ?_)
    refine r_callV_I (pc := 23) (Py := P_Jx4a65c_size_8abf5) (n := 0) (As := []) (fun q e => k_Jx4a65c_size_8abf5 G _ b7 q e) (c := 0) (Tb := TJx4a65c) (N := 3) rfl (by decide) (j0 := 0) rfl tw_470 tw_344 tw_345 tw_64 tw_346 hd_Jx4a65c_size_8abf5 ⟨Nat.le_of_ble_eq_true rfl, Nat.le_of_ble_eq_true rfl⟩ rfl [0] rfl rfl (Nat.le_of_ble_eq_true rfl) dX11_reading_23 hF (fun M8 r9 hF => ?_)
    refine r_istore (pc := 26) (L1 := [(4, .int r9), (3, .ref b4), (0, .ref a0), (1, .int a1), (2, .int a2)]) dX11_reading_26 (by decide) rfl ?_
    refine r_iload_n (pc := 28) 4 dX11_reading_28 rfl rfl ?_
    refine r_ldc (pc := 29) (w := -100000) tw_732 dX11_reading_29 ?_
    refine r_icmp_ge (pc := 31) (tgt := 41) dX11_reading_31 rfl hF (fun hF => ?_) (fun hF => ?_)
    · refine r_iload_n (pc := 41) 4 dX11_reading_41 rfl rfl ?_
      refine r_ldc (pc := 42) (w := 200000) tw_733 dX11_reading_42 ?_
      refine r_icmp_gt (pc := 44) (tgt := 54) dX11_reading_44 rfl hF (fun hF => ?_) (fun hF => ?_)
      · exact T.sub ((w_X11_reading_p54) M8 a0 hF) [2] [2] rfl rfl
      · refine r_iload (pc := 47) 0 dX11_reading_47 rfl ?_
        refine r_bipush (pc := 49) (w := 20) dX11_reading_49 (by decide) ?_
        refine r_icmp_lt (pc := 51) (tgt := 61) dX11_reading_51 rfl hF (fun hF => ?_) (fun hF => ?_)
        · refine r_aload_n (pc := 61) 2 dX11_reading_61 rfl rfl ?_
          refine gf_X11_59 (pc := 62) (j := 2) rfl dX11_reading_62 ?_
          refine r_lr (by decide) hF (fun b10 hF => ?_)
          refine r_new (pc := 65) (c := 4) (N := 3) tin_X3 tyX3 tyX3_ok rfl rfl (by decide) tw_1040 tw_1041 tw_86 (by decide +kernel) dX11_reading_65 hF (fun b11 M12 hF => ?_)
          refine r_dup (pc := 68) dX11_reading_68 rfl ?_
          refine r_iload_n (pc := 69) 3 dX11_reading_69 rfl rfl ?_
          refine r_aload_n (pc := 70) 2 dX11_reading_70 rfl rfl ?_
          refine gf_X11_49 (pc := 71) (j := 4) rfl dX11_reading_71 ?_
          refine r_lr (by decide) hF (fun b13 hF => ?_)
          refine gf_X11_67 (pc := 74) (j := 0) rfl dX11_reading_74 ?_
          refine r_iload_n (pc := 77) 4 dX11_reading_77 rfl rfl ?_
          refine r_i2l (pc := 78) dX11_reading_78 ?_
          refine r_aload_n (pc := 79) 1 dX11_reading_79 rfl rfl ?_
          refine r_kind (by decide) hF (fun hF => ?_)
          refine gf_X11_291 (pc := 80) (j := 0) rfl dX11_reading_80 ?_
          refine r_lr (by decide) hF (fun b14 hF => ?_)
          refine gf_X11_129 (pc := 83) (j := 0) rfl dX11_reading_83 ?_
          refine r_lsub (pc := 86) dX11_reading_86 ?_
          refine r_callI_V (pc := 87) (Py := P_X3_init) (n := 3) (As := [.int a1, .int (gI M12 206 b13), .long ((a2.toInt64) - (gJ M12 503 b14))]) (fun q e => k_X3_init G _ b11 a1 (gI M12 206 b13) ((a2.toInt64) - (gJ M12 503 b14)) q e) tw_1042 tw_1043 tw_86 tw_1044 rfl rfl hd_X3_init ⟨Nat.le_of_ble_eq_true rfl, Nat.le_of_ble_eq_true rfl⟩ rfl [3] rfl rfl (Nat.le_of_ble_eq_true rfl) dX11_reading_87 hF (fun M15 r16 hF => ?_)
          refine r_callV_I (pc := 90) (Py := P_Jx4a65c_add_9ea2d) (n := 1) (As := [.ref b11]) (fun q e => k_Jx4a65c_add_9ea2d G _ b10 b11 q e) (c := 0) (Tb := TJx4a65c) (N := 3) rfl (by decide) (j0 := 4) rfl tw_619 tw_513 tw_514 tw_64 tw_515 hd_Jx4a65c_add_9ea2d ⟨Nat.le_of_ble_eq_true rfl, Nat.le_of_ble_eq_true rfl⟩ rfl [4] rfl rfl (Nat.le_of_ble_eq_true rfl) dX11_reading_90 hF (fun M17 r18 hF => ?_)
          refine r_pop (pc := 93) dX11_reading_93 rfl ?_
          refine r_iload (pc := 94) 0 dX11_reading_94 rfl ?_
          exact r_iret (pc := 96) dX11_reading_96 hF
        · exact T.sub ((w_X11_reading_p54) M8 a0 hF) [2] [2] rfl rfl
    · refine r_aload_n (pc := 34) 2 dX11_reading_34 rfl rfl ?_
      refine r_bipush (pc := 35) (w := -4) dX11_reading_35 (by decide) ?_
      refine r_callV_I (pc := 37) (Py := P_X11_refuse) (n := 1) (As := [.int ((-4 : Int32))]) (fun q e => k_X11_refuse G _ a0 (-4 : Int32) q e) (c := 12) (Tb := TX11) (N := 11) rfl (by decide) (j0 := 2) rfl tw_322 tw_324 tw_0 tw_60 tw_325 hd_X11_refuse ⟨Nat.le_of_ble_eq_true rfl, Nat.le_of_ble_eq_true rfl⟩ rfl [2] rfl rfl (Nat.le_of_ble_eq_true rfl) dX11_reading_37 hF (fun M19 r20 hF => ?_)
      exact r_iret (pc := 40) dX11_reading_40 hF
theorem k_X11_reading (G : EG) (M : Mem) (a0 : Nat) (a1 : Int32) (a2 : Int32) (q : Mem × Int32) (h : F_X11_reading M a0 a1 a2 = some q) : Kt yX11_reading P_X11_reading M [(a0, 13)] [.ref a0, .int a1, .int a2] (RI G q) := Kt.of (by decide +kernel) rfl (Nat.le_of_ble_eq_true rfl) rfl (fun X hz => w_X11_reading M a0 a1 a2 h)
set_option maxHeartbeats 4000000 in
theorem w_X5_init {X : Option Cx} {G : EG} {res : Mem × Unit} (hzi : ∀ x, X = some x → Zi x) (M : Mem) (a0 : Nat) (a1 : Int32) (a2 : Int32) (a3 : Nat) (a4 : Int32) (hF : F_X5_init M a0 a1 a2 a3 a4 = some res) : T X (RV G res) P_X5_init M [(a0, 7), (a3, 20)] [(0, .ref a0), (1, .int a1), (2, .int a2), (3, .ref a3), (4, .int a4)] [] 0 := by
  unfold F_X5_init at hF
  refine r_aload_n (pc := 0) 0 dX5_init_0 rfl rfl ?_
  refine r_objInit (pc := 1) tw_905 tw_93 tw_94 ⟨Nat.le_of_ble_eq_true rfl, Nat.le_of_ble_eq_true rfl⟩ (Nat.le_of_ble_eq_true rfl) dX5_init_1 ?_
  refine r_aload_n (pc := 4) 0 dX5_init_4 rfl rfl ?_
  refine r_iload_n (pc := 5) 1 dX5_init_5 rfl rfl ?_
  refine pf_X5_7 (pc := 6) hzi (j := 0) rfl dX5_init_6 hF (fun M1 hF => ?_)
  refine r_aload_n (pc := 9) 0 dX5_init_9 rfl rfl ?_
  refine r_iload_n (pc := 10) 2 dX5_init_10 rfl rfl ?_
  refine pf_X5_13 (pc := 11) hzi (j := 0) rfl dX5_init_11 hF (fun M2 hF => ?_)
  refine r_aload_n (pc := 14) 0 dX5_init_14 rfl rfl ?_
  refine r_aload_n (pc := 15) 3 dX5_init_15 rfl rfl ?_
  refine pf_X5_16 (pc := 16) hzi (w := (some a3)) (j := 0) rfl dX5_init_16 hF (fun M3 hF => ?_)
  refine r_aload_n (pc := 19) 0 dX5_init_19 rfl rfl ?_
  refine r_iload (pc := 20) 4 dX5_init_20 rfl ?_
  refine pf_X5_20 (pc := 22) hzi (j := 0) rfl dX5_init_22 hF (fun M4 hF => ?_)
  exact r_vret (pc := 25) dX5_init_25 hF
theorem k_X5_init (G : EG) (M : Mem) (a0 : Nat) (a1 : Int32) (a2 : Int32) (a3 : Nat) (a4 : Int32) (q : Mem × Unit) (h : F_X5_init M a0 a1 a2 a3 a4 = some q) : Kt yX5_init P_X5_init M [(a0, 7), (a3, 20)] [.ref a0, .int a1, .int a2, .ref a3, .int a4] (RV G q) := Kt.of (by decide +kernel) rfl (Nat.le_of_ble_eq_true rfl) rfl (fun X hz => w_X5_init (fun x hx => hz x hx rfl) M a0 a1 a2 a3 a4 h)
set_option maxHeartbeats 4000000 in
theorem w_X9_fail_p16 {X : Option Cx} {G : EG} {res : Mem × Unit} : ∀ (M : Mem), F_X9_fail_p16 M = some res → T X (RV G res) P_X9_fail M [] [] [] 16 := by
  intro M hF
  unfold F_X9_fail_p16 at hF
  exact r_vret (pc := 16) dX9_fail_16 hF
set_option maxHeartbeats 4000000 in
theorem w_X9_fail {X : Option Cx} {G : EG} {res : Mem × Unit} (M : Mem) (a0 : Nat) (hF : F_X9_fail M a0 = some res) : T X (RV G res) P_X9_fail M [(a0, 11)] [(0, .ref a0)] [] 0 := by
  unfold F_X9_fail at hF
  refine r_aload_n (pc := 0) 0 dX9_fail_0 rfl rfl ?_
  refine gf_X9_28 (pc := 1) (j := 0) rfl dX9_fail_1 ?_
  refine r_iconst (pc := 4) (w := -1) dX9_fail_4 (by decide) ?_
  refine r_icmp_ne (pc := 5) (tgt := 16) dX9_fail_5 rfl hF (fun hF => ?_) (fun hF => ?_)
  · exact T.sub ((w_X9_fail_p16) M hF) [] [] rfl rfl
  · refine r_aload_n (pc := 8) 0 dX9_fail_8 rfl rfl ?_
    refine r_aload_n (pc := 9) 0 dX9_fail_9 rfl rfl ?_
    refine gf_X9_22 (pc := 10) (j := 0) rfl dX9_fail_10 ?_
    refine pf_X9_28 (pc := 13) (j := 0) rfl dX9_fail_13 hF (fun M1 hF => ?_)
    exact T.sub ((w_X9_fail_p16) M1 hF) [] [] rfl rfl
theorem k_X9_fail (G : EG) (M : Mem) (a0 : Nat) (q : Mem × Unit) (h : F_X9_fail M a0 = some q) : Kt yX9_fail P_X9_fail M [(a0, 11)] [.ref a0] (RV G q) := Kt.of (by decide +kernel) rfl (Nat.le_of_ble_eq_true rfl) rfl (fun X hz => w_X9_fail M a0 h)
set_option maxHeartbeats 4000000 in
theorem w_X9_emit_p39 {X : Option Cx} {G : EG} {res : Mem × Unit} : ∀ (M : Mem), F_X9_emit_p39 M = some res → T X (RV G res) P_X9_emit M [] [] [] 39 := by
  intro M hF
  unfold F_X9_emit_p39 at hF
  exact r_vret (pc := 39) dX9_emit_39 hF
set_option maxHeartbeats 4000000 in
theorem w_X9_emit {X : Option Cx} {G : EG} {res : Mem × Unit} (M : Mem) (a0 : Nat) (a1 : Int32) (hF : F_X9_emit M a0 a1 = some res) : T X (RV G res) P_X9_emit M [(a0, 11)] [(0, .ref a0), (1, .int a1)] [] 0 := by
  unfold F_X9_emit at hF
  refine r_aload_n (pc := 0) 0 dX9_emit_0 rfl rfl ?_
  refine gf_X9_25 (pc := 1) (j := 0) rfl dX9_emit_1 ?_
  refine r_if_lt (pc := 4) (tgt := 39) dX9_emit_4 rfl hF (fun hF => ?_) (fun hF => ?_)
  · exact T.sub ((w_X9_emit_p39) M hF) [] [] rfl rfl
  · refine r_aload_n (pc := 7) 0 dX9_emit_7 rfl rfl ?_
    refine gf_X9_25 (pc := 8) (j := 0) rfl dX9_emit_8 ?_
    refine r_aload_n (pc := 11) 0 dX9_emit_11 rfl rfl ?_
    refine gf_X9_15 (pc := 12) (j := 0) rfl dX9_emit_12 ?_
    refine r_lr (by decide) hF (fun b1 hF => ?_)
    refine r_alen (pc := 15) (j := 0) rfl (by decide) dX9_emit_15 ?_
    refine r_icmp_ge (pc := 16) (tgt := 39) dX9_emit_16 rfl hF (fun hF => ?_) (fun hF => ?_)
    · exact T.sub ((w_X9_emit_p39) M hF) [] [] rfl rfl
    · refine r_aload_n (pc := 19) 0 dX9_emit_19 rfl rfl ?_
      refine gf_X9_15 (pc := 20) (j := 1) rfl dX9_emit_20 ?_
      refine r_lr (by decide) hF (fun b2 hF => ?_)
      refine r_aload_n (pc := 23) 0 dX9_emit_23 rfl rfl ?_
      refine gf_X9_25 (pc := 24) (j := 2) rfl dX9_emit_24 ?_
      refine r_iload_n (pc := 27) 1 dX9_emit_27 rfl rfl ?_
      refine r_iast (pc := 28) (j := 0) rfl dX9_emit_28 hF (fun M3 hF => ?_)
      refine r_aload_n (pc := 29) 0 dX9_emit_29 rfl rfl ?_
      refine r_dup (pc := 30) dX9_emit_30 rfl ?_
      refine gf_X9_25 (pc := 31) (j := 2) rfl dX9_emit_31 ?_
      refine r_iconst (pc := 34) (w := 1) dX9_emit_34 (by decide) ?_
      refine r_iadd (pc := 35) dX9_emit_35 ?_
      refine pf_X9_25 (pc := 36) (j := 2) rfl dX9_emit_36 hF (fun M4 hF => ?_)
      exact T.sub ((w_X9_emit_p39) M4 hF) [] [] rfl rfl
theorem k_X9_emit (G : EG) (M : Mem) (a0 : Nat) (a1 : Int32) (q : Mem × Unit) (h : F_X9_emit M a0 a1 = some q) : Kt yX9_emit P_X9_emit M [(a0, 11)] [.ref a0, .int a1] (RV G q) := Kt.of (by decide +kernel) rfl (Nat.le_of_ble_eq_true rfl) rfl (fun X hz => w_X9_emit M a0 a1 h)
set_option maxHeartbeats 4000000 in
theorem w_X9_seen_p61 {X : Option Cx} {G : EG} {res : Mem × Int32} : ∀ (M : Mem) (y0 : Int32), F_X9_seen_p61 M y0 = some res → T X (RI G res) P_X9_seen M [] [] [.int y0] 61 := by
  intro M y0 hF
  unfold F_X9_seen_p61 at hF
  exact r_iret (pc := 61) dX9_seen_61 hF
set_option maxHeartbeats 4000000 in
theorem w_X9_seen_p43 {X : Option Cx} {G : EG} {res : Mem × Int32} : ∀ (M : Mem) (x0 : Nat) (y0 : Int32), F_X9_seen_p43 M x0 y0 = some res → T X (RI G res) P_X9_seen M [(x0, 11)] [(0, .ref x0)] [.int y0] 43 := by
  intro M x0 y0 hF
  unfold F_X9_seen_p43 at hF
  refine r_istore_n (pc := 43) (L1 := [(1, .int y0), (0, .ref x0)]) dX9_seen_43 rfl (by decide) rfl ?_
  refine r_iload_n (pc := 44) 0 dX9_seen_44 rfl rfl ?_
  refine r_if_eq (pc := 45) (tgt := 60) dX9_seen_45 rfl hF (fun hF => ?_) (fun hF => ?_)
  · refine r_iconst (pc := 60) (w := -1) dX9_seen_60 (by decide) ?_
    exact T.sub ((w_X9_seen_p61) M (-1 : Int32) hF) [] [] rfl rfl
  · refine r_aload_n (pc := 48) 1 dX9_seen_48 rfl rfl ?_
    refine gf_X9_9 (pc := 49) (j := 0) rfl dX9_seen_49 ?_
    refine r_lr (by decide) hF (fun b1 hF => ?_)
    refine r_aload_n (pc := 52) 1 dX9_seen_52 rfl rfl ?_
    refine gf_X9_22 (pc := 53) (j := 1) rfl dX9_seen_53 ?_
    refine r_iald (pc := 56) (j := 0) rfl dX9_seen_56 hF (fun hF => ?_)
    refine r_goto (pc := 57) (tgt := 61) dX9_seen_57 rfl ?_
    exact T.sub ((w_X9_seen_p61) M (gA M b1 (ixn (gI M 1004 x0))) hF) [] [] rfl rfl
set_option maxHeartbeats 4000000 in
theorem w_X9_seen_p42 {X : Option Cx} {G : EG} {res : Mem × Int32} : ∀ (M : Mem) (x0 : Nat), F_X9_seen_p42 M x0 = some res → T X (RI G res) P_X9_seen M [(x0, 11)] [(0, .ref x0)] [] 42 := by
  intro M x0 hF
  unfold F_X9_seen_p42 at hF
  refine r_iconst (pc := 42) (w := 0) dX9_seen_42 (by decide) ?_
  exact T.sub ((w_X9_seen_p43) M x0 (0 : Int32) hF) [0] [0] rfl rfl
set_option maxHeartbeats 4000000 in
theorem w_X9_seen {X : Option Cx} {G : EG} {res : Mem × Int32} (M : Mem) (a0 : Nat) (hF : F_X9_seen M a0 = some res) : T X (RI G res) P_X9_seen M [(a0, 11)] [(0, .ref a0)] [] 0 := by
  unfold F_X9_seen at hF
  refine r_aload_n (pc := 0) 0 dX9_seen_0 rfl rfl ?_
  refine gf_X9_28 (pc := 1) (j := 0) rfl dX9_seen_1 ?_
  refine r_iconst (pc := 4) (w := -1) dX9_seen_4 (by decide) ?_
  refine r_icmp_ne (pc := 5) (tgt := 42) dX9_seen_5 rfl hF (fun hF => ?_) (fun hF => ?_)
  · exact T.sub ((w_X9_seen_p42) M a0 hF) [0] [0] rfl rfl
  · refine r_aload_n (pc := 8) 0 dX9_seen_8 rfl rfl ?_
    refine gf_X9_22 (pc := 9) (j := 0) rfl dX9_seen_9 ?_
    refine r_if_lt (pc := 12) (tgt := 42) dX9_seen_12 rfl hF (fun hF => ?_) (fun hF => ?_)
    · exact T.sub ((w_X9_seen_p42) M a0 hF) [0] [0] rfl rfl
    · refine r_aload_n (pc := 15) 0 dX9_seen_15 rfl rfl ?_
      refine gf_X9_22 (pc := 16) (j := 0) rfl dX9_seen_16 ?_
      refine r_aload_n (pc := 19) 0 dX9_seen_19 rfl rfl ?_
      refine gf_X9_18 (pc := 20) (j := 0) rfl dX9_seen_20 ?_
      refine r_icmp_ge (pc := 23) (tgt := 42) dX9_seen_23 rfl hF (fun hF => ?_) (fun hF => ?_)
      · exact T.sub ((w_X9_seen_p42) M a0 hF) [0] [0] rfl rfl
      · refine r_aload_n (pc := 26) 0 dX9_seen_26 rfl rfl ?_
        refine gf_X9_22 (pc := 27) (j := 0) rfl dX9_seen_27 ?_
        refine r_aload_n (pc := 30) 0 dX9_seen_30 rfl rfl ?_
        refine gf_X9_9 (pc := 31) (j := 0) rfl dX9_seen_31 ?_
        refine r_lr (by decide) hF (fun b1 hF => ?_)
        refine r_alen (pc := 34) (j := 0) rfl (by decide) dX9_seen_34 ?_
        refine r_icmp_ge (pc := 35) (tgt := 42) dX9_seen_35 rfl hF (fun hF => ?_) (fun hF => ?_)
        · exact T.sub ((w_X9_seen_p42) M a0 hF) [1] [0] rfl rfl
        · refine r_iconst (pc := 38) (w := 1) dX9_seen_38 (by decide) ?_
          refine r_goto (pc := 39) (tgt := 43) dX9_seen_39 rfl ?_
          exact T.sub ((w_X9_seen_p43) M a0 (1 : Int32) hF) [1] [0] rfl rfl
theorem k_X9_seen (G : EG) (M : Mem) (a0 : Nat) (q : Mem × Int32) (h : F_X9_seen M a0 = some q) : Kt yX9_seen P_X9_seen M [(a0, 11)] [.ref a0] (RI G q) := Kt.of (by decide +kernel) rfl (Nat.le_of_ble_eq_true rfl) rfl (fun X hz => w_X9_seen M a0 h)
set_option maxHeartbeats 4000000 in
theorem w_X9_isAt_p24 {X : Option Cx} {G : EG} {res : Mem × Int32} : ∀ (M : Mem) (y0 : Int32), F_X9_isAt_p24 M y0 = some res → T X (RI G res) P_X9_isAt M [] [] [.int y0] 24 := by
  intro M y0 hF
  unfold F_X9_isAt_p24 at hF
  exact r_zret (pc := 24) dX9_isAt_24 hF
set_option maxHeartbeats 4000000 in
theorem w_X9_isAt_p23 {X : Option Cx} {G : EG} {res : Mem × Int32} : ∀ (M : Mem), F_X9_isAt_p23 M = some res → T X (RI G res) P_X9_isAt M [] [] [] 23 := by
  intro M hF
  unfold F_X9_isAt_p23 at hF
  refine r_iconst (pc := 23) (w := 0) dX9_isAt_23 (by decide) ?_
  exact T.sub ((w_X9_isAt_p24) M (0 : Int32) hF) [] [] rfl rfl
set_option maxHeartbeats 4000000 in
theorem w_X9_isAt {X : Option Cx} {G : EG} {res : Mem × Int32} (M : Mem) (a0 : Nat) (a1 : Nat) (h_a1 : a1 < 7) (hF : F_X9_isAt M a0 a1 = some res) : T X (RI G res) P_X9_isAt M [(a0, 11)] [(0, .ref a0), (1, .ref (G.1 a1))] [] 0 := by
  unfold F_X9_isAt at hF
  refine r_aload_n (pc := 0) 0 dX9_isAt_0 rfl rfl ?_
  refine r_callV_I (pc := 1) (Py := P_X9_seen) (n := 0) (As := []) (fun q e => k_X9_seen G _ a0 q e) (c := 10) (Tb := TX9) (N := 6) rfl (by decide) (j0 := 0) rfl tw_776 tw_778 tw_15 tw_67 tw_779 hd_X9_seen ⟨Nat.le_of_ble_eq_true rfl, Nat.le_of_ble_eq_true rfl⟩ rfl [0] rfl rfl (Nat.le_of_ble_eq_true rfl) dX9_isAt_1 hF (fun M1 r2 hF => ?_)
  refine r_istore_n (pc := 4) (L1 := [(2, .int r2), (0, .ref a0), (1, .ref (G.1 a1))]) dX9_isAt_4 rfl (by decide) rfl ?_
  refine r_iload_n (pc := 5) 0 dX9_isAt_5 rfl rfl ?_
  refine r_iconst (pc := 6) (w := -1) dX9_isAt_6 (by decide) ?_
  refine r_icmp_eq (pc := 7) (tgt := 23) dX9_isAt_7 rfl hF (fun hF => ?_) (fun hF => ?_)
  · exact T.sub ((w_X9_isAt_p23) M1 hF) [] [] rfl rfl
  · refine r_aload_n (pc := 10) 2 dX9_isAt_10 rfl rfl ?_
    refine r_iload_n (pc := 11) 0 dX9_isAt_11 rfl rfl ?_
    refine r_i2c (pc := 12) dX9_isAt_12 ?_
    refine r_callVS_I (pc := 13) (Py := P_J0_indexOf_0f7a4) (n := 1) (As := [.int ((r2.toUInt32 % 65536).toInt32)]) (fun q e => k_J0_indexOf_0f7a4 G _ a1 ((r2.toUInt32 % 65536).toInt32) h_a1 q e) (i := a1) h_a1 rfl tw_793 tw_794 tw_795 tw_80 tw_796 hd_J0_indexOf_0f7a4 ⟨Nat.le_of_ble_eq_true rfl, Nat.le_of_ble_eq_true rfl⟩ rfl [] rfl rfl (Nat.le_of_ble_eq_true rfl) dX9_isAt_13 hF (fun M3 r4 hF => ?_)
    refine r_if_lt (pc := 16) (tgt := 23) dX9_isAt_16 rfl hF (fun hF => ?_) (fun hF => ?_)
    · exact T.sub ((w_X9_isAt_p23) M3 hF) [] [] rfl rfl
    · refine r_iconst (pc := 19) (w := 1) dX9_isAt_19 (by decide) ?_
      refine r_goto (pc := 20) (tgt := 24) dX9_isAt_20 rfl ?_
      exact T.sub ((w_X9_isAt_p24) M3 (1 : Int32) hF) [] [] rfl rfl
theorem k_X9_isAt (G : EG) (M : Mem) (a0 : Nat) (a1 : Nat) (h_a1 : a1 < 7) (q : Mem × Int32) (h : F_X9_isAt M a0 a1 = some q) : Kt yX9_isAt P_X9_isAt M [(a0, 11)] [.ref a0, .ref (G.1 a1)] (RI G q) := Kt.of (by decide +kernel) rfl (Nat.le_of_ble_eq_true rfl) rfl (fun X hz => w_X9_isAt M a0 a1 h_a1 h)
set_option maxHeartbeats 4000000 in
theorem w_X9_takeOperator {X : Option Cx} {G : EG} {res : Mem × Int32} (M : Mem) (a0 : Nat) (hF : F_X9_takeOperator M a0 = some res) : T X (RI G res) P_X9_takeOperator M [(a0, 11)] [(0, .ref a0)] [] 0 := by
  unfold F_X9_takeOperator at hF
  refine r_bipush (pc := 0) (w := -10) dX9_takeOperator_0 (by decide) ?_
  refine r_ldcS (pc := 2) 6 (by decide) rfl rfl dX9_takeOperator_2 ?_
  refine r_aload_n (pc := 4) 0 dX9_takeOperator_4 rfl rfl ?_
  refine r_callV_I (pc := 5) (Py := P_X9_seen) (n := 0) (As := []) (fun q e => k_X9_seen G _ a0 q e) (c := 10) (Tb := TX9) (N := 6) rfl (by decide) (j0 := 0) rfl tw_776 tw_778 tw_15 tw_67 tw_779 hd_X9_seen ⟨Nat.le_of_ble_eq_true rfl, Nat.le_of_ble_eq_true rfl⟩ rfl [0] rfl rfl (Nat.le_of_ble_eq_true rfl) dX9_takeOperator_5 hF (fun M1 r2 hF => ?_)
  refine r_i2c (pc := 8) dX9_takeOperator_8 ?_
  refine r_callVS_I (pc := 9) (Py := P_J0_indexOf_0f7a4) (n := 1) (As := [.int ((r2.toUInt32 % 65536).toInt32)]) (fun q e => k_J0_indexOf_0f7a4 G _ 6 ((r2.toUInt32 % 65536).toInt32) (by decide) q e) (i := 6) (by decide) rfl tw_793 tw_794 tw_795 tw_80 tw_796 hd_J0_indexOf_0f7a4 ⟨Nat.le_of_ble_eq_true rfl, Nat.le_of_ble_eq_true rfl⟩ rfl [] rfl rfl (Nat.le_of_ble_eq_true rfl) dX9_takeOperator_9 hF (fun M3 r4 hF => ?_)
  refine r_isub (pc := 12) dX9_takeOperator_12 ?_
  refine r_gI (pc := 13) hF (fun v5 hF => ?_)
  refine r_istore_n (pc := 13) (L1 := [(1, .int v5), (0, .ref a0)]) dX9_takeOperator_13 rfl (by decide) rfl ?_
  refine r_aload_n (pc := 14) 1 dX9_takeOperator_14 rfl rfl ?_
  refine r_dup (pc := 15) dX9_takeOperator_15 rfl ?_
  refine gf_X9_22 (pc := 16) (j := 0) rfl dX9_takeOperator_16 ?_
  refine r_iconst (pc := 19) (w := 1) dX9_takeOperator_19 (by decide) ?_
  refine r_iadd (pc := 20) dX9_takeOperator_20 ?_
  refine pf_X9_22 (pc := 21) (j := 0) rfl dX9_takeOperator_21 hF (fun M6 hF => ?_)
  refine r_iload_n (pc := 24) 0 dX9_takeOperator_24 rfl rfl ?_
  exact r_iret (pc := 25) dX9_takeOperator_25 hF
theorem k_X9_takeOperator (G : EG) (M : Mem) (a0 : Nat) (q : Mem × Int32) (h : F_X9_takeOperator M a0 = some q) : Kt yX9_takeOperator P_X9_takeOperator M [(a0, 11)] [.ref a0] (RI G q) := Kt.of (by decide +kernel) rfl (Nat.le_of_ble_eq_true rfl) rfl (fun X hz => w_X9_takeOperator M a0 h)
set_option maxHeartbeats 4000000 in
theorem w_X9_isAtDigit_p22 {X : Option Cx} {G : EG} {res : Mem × Int32} : ∀ (M : Mem) (y0 : Int32), F_X9_isAtDigit_p22 M y0 = some res → T X (RI G res) P_X9_isAtDigit M [] [] [.int y0] 22 := by
  intro M y0 hF
  unfold F_X9_isAtDigit_p22 at hF
  exact r_zret (pc := 22) dX9_isAtDigit_22 hF
set_option maxHeartbeats 4000000 in
theorem w_X9_isAtDigit_p21 {X : Option Cx} {G : EG} {res : Mem × Int32} : ∀ (M : Mem), F_X9_isAtDigit_p21 M = some res → T X (RI G res) P_X9_isAtDigit M [] [] [] 21 := by
  intro M hF
  unfold F_X9_isAtDigit_p21 at hF
  refine r_iconst (pc := 21) (w := 0) dX9_isAtDigit_21 (by decide) ?_
  exact T.sub ((w_X9_isAtDigit_p22) M (0 : Int32) hF) [] [] rfl rfl
set_option maxHeartbeats 4000000 in
theorem w_X9_isAtDigit {X : Option Cx} {G : EG} {res : Mem × Int32} (M : Mem) (a0 : Nat) (hF : F_X9_isAtDigit M a0 = some res) : T X (RI G res) P_X9_isAtDigit M [(a0, 11)] [(0, .ref a0)] [] 0 := by
  unfold F_X9_isAtDigit at hF
  refine r_aload_n (pc := 0) 0 dX9_isAtDigit_0 rfl rfl ?_
  refine r_callV_I (pc := 1) (Py := P_X9_seen) (n := 0) (As := []) (fun q e => k_X9_seen G _ a0 q e) (c := 10) (Tb := TX9) (N := 6) rfl (by decide) (j0 := 0) rfl tw_776 tw_778 tw_15 tw_67 tw_779 hd_X9_seen ⟨Nat.le_of_ble_eq_true rfl, Nat.le_of_ble_eq_true rfl⟩ rfl [0] rfl rfl (Nat.le_of_ble_eq_true rfl) dX9_isAtDigit_1 hF (fun M1 r2 hF => ?_)
  refine r_istore_n (pc := 4) (L1 := [(1, .int r2), (0, .ref a0)]) dX9_isAtDigit_4 rfl (by decide) rfl ?_
  refine r_iload_n (pc := 5) 0 dX9_isAtDigit_5 rfl rfl ?_
  refine r_bipush (pc := 6) (w := 48) dX9_isAtDigit_6 (by decide) ?_
  refine r_icmp_lt (pc := 8) (tgt := 21) dX9_isAtDigit_8 rfl hF (fun hF => ?_) (fun hF => ?_)
  · exact T.sub ((w_X9_isAtDigit_p21) M1 hF) [] [] rfl rfl
  · refine r_iload_n (pc := 11) 0 dX9_isAtDigit_11 rfl rfl ?_
    refine r_bipush (pc := 12) (w := 57) dX9_isAtDigit_12 (by decide) ?_
    refine r_icmp_gt (pc := 14) (tgt := 21) dX9_isAtDigit_14 rfl hF (fun hF => ?_) (fun hF => ?_)
    · exact T.sub ((w_X9_isAtDigit_p21) M1 hF) [] [] rfl rfl
    · refine r_iconst (pc := 17) (w := 1) dX9_isAtDigit_17 (by decide) ?_
      refine r_goto (pc := 18) (tgt := 22) dX9_isAtDigit_18 rfl ?_
      exact T.sub ((w_X9_isAtDigit_p22) M1 (1 : Int32) hF) [] [] rfl rfl
theorem k_X9_isAtDigit (G : EG) (M : Mem) (a0 : Nat) (q : Mem × Int32) (h : F_X9_isAtDigit M a0 = some q) : Kt yX9_isAtDigit P_X9_isAtDigit M [(a0, 11)] [.ref a0] (RI G q) := Kt.of (by decide +kernel) rfl (Nat.le_of_ble_eq_true rfl) rfl (fun X hz => w_X9_isAtDigit M a0 h)
set_option maxHeartbeats 4000000 in
theorem w_X9_readNumber_p4 {X : Option Cx} {G : EG} {res : Mem × Unit} {k45 : Mem → Nat → Int32 → Option (Mem × Unit)} (hk45 : ∀ (M : Mem) (x0 : Nat) (x1 : Int32), k45 M x0 x1 = some res → T X (RV G res) P_X9_readNumber M [(x0, 11)] [(0, .ref x0), (1, .int x1)] [] 45) : ∀ (n : Nat) (M : Mem) (x0 : Nat) (x1 : Int32) (x2 : Int32), F_X9_readNumber_p4 k45 n M x0 x1 x2 = some res → T X (RV G res) P_X9_readNumber M [(x0, 11)] [(0, .ref x0), (1, .int x1), (2, .int x2)] [] 4 := by
  intro n
  induction n with
  | zero =>
    intro M x0 x1 x2 hF
    cases hF
  | succ n ih =>
    intro M x0 x1 x2 hF
    unfold F_X9_readNumber_p4 at hF
    refine r_iload_n (pc := 4) 2 dX9_readNumber_4 rfl rfl ?_
    refine r_iconst (pc := 5) (w := 5) dX9_readNumber_5 (by decide) ?_
    refine r_icmp_ge (pc := 6) (tgt := 45) dX9_readNumber_6 rfl hF (fun hF => ?_) (fun hF => ?_)
    · exact T.sub (hk45 M x0 x1 hF) [0] [0, 1] rfl rfl
    · refine r_aload_n (pc := 9) 0 dX9_readNumber_9 rfl rfl ?_
      refine r_callV_I (pc := 10) (Py := P_X9_isAtDigit) (n := 0) (As := []) (fun q e => k_X9_isAtDigit G _ x0 q e) (c := 10) (Tb := TX9) (N := 6) rfl (by decide) (j0 := 0) rfl tw_772 tw_774 tw_14 tw_67 tw_775 hd_X9_isAtDigit ⟨Nat.le_of_ble_eq_true rfl, Nat.le_of_ble_eq_true rfl⟩ rfl [0] rfl rfl (Nat.le_of_ble_eq_true rfl) dX9_readNumber_10 hF (fun M1 r2 hF => ?_)
      refine r_if_eq (pc := 13) (tgt := 45) dX9_readNumber_13 rfl hF (fun hF => ?_) (fun hF => ?_)
      · exact T.sub (hk45 M1 x0 x1 hF) [0] [0, 1] rfl rfl
      · refine r_bipush (pc := 16) (w := 10) dX9_readNumber_16 (by decide) ?_
        refine r_iload_n (pc := 18) 1 dX9_readNumber_18 rfl rfl ?_
        refine r_imul (pc := 19) dX9_readNumber_19 ?_
        refine r_aload_n (pc := 20) 0 dX9_readNumber_20 rfl rfl ?_
        refine r_callV_I (pc := 21) (Py := P_X9_seen) (n := 0) (As := []) (fun q e => k_X9_seen G _ x0 q e) (c := 10) (Tb := TX9) (N := 6) rfl (by decide) (j0 := 0) rfl tw_776 tw_778 tw_15 tw_67 tw_779 hd_X9_seen ⟨Nat.le_of_ble_eq_true rfl, Nat.le_of_ble_eq_true rfl⟩ rfl [0] rfl rfl (Nat.le_of_ble_eq_true rfl) dX9_readNumber_21 hF (fun M3 r4 hF => ?_)
        refine r_iadd (pc := 24) dX9_readNumber_24 ?_
        refine r_bipush (pc := 25) (w := 48) dX9_readNumber_25 (by decide) ?_
        refine r_isub (pc := 27) dX9_readNumber_27 ?_
        refine r_gI (pc := 28) hF (fun v5 hF => ?_)
        refine r_istore_n (pc := 28) (L1 := [(1, .int v5), (0, .ref x0), (2, .int x2)]) dX9_readNumber_28 rfl (by decide) rfl ?_
        refine r_aload_n (pc := 29) 1 dX9_readNumber_29 rfl rfl ?_
        refine r_dup (pc := 30) dX9_readNumber_30 rfl ?_
        refine gf_X9_22 (pc := 31) (j := 0) rfl dX9_readNumber_31 ?_
        refine r_iconst (pc := 34) (w := 1) dX9_readNumber_34 (by decide) ?_
        refine r_iadd (pc := 35) dX9_readNumber_35 ?_
        refine pf_X9_22 (pc := 36) (j := 0) rfl dX9_readNumber_36 hF (fun M6 hF => ?_)
        obtain ⟨v7, e9, hF⟩ := bnd_e hF
        refine r_iinc (pc := 39) (w := v7) (k := 2) (L1 := [(2, .int v7), (1, .int v5), (0, .ref x0)]) dX9_readNumber_39 rfl (by rw [e9]; rfl) (by decide) rfl ?_
        clear e9
        refine r_goto (pc := 42) (tgt := 4) dX9_readNumber_42 rfl ?_
        exact T.sub (ih M6 x0 v5 v7 hF) [0] [2, 1, 0] rfl rfl
set_option maxHeartbeats 4000000 in
theorem w_X9_readNumber_p45 {X : Option Cx} {G : EG} {res : Mem × Unit} : ∀ (M : Mem) (x0 : Nat) (x1 : Int32), F_X9_readNumber_p45 M x0 x1 = some res → T X (RV G res) P_X9_readNumber M [(x0, 11)] [(0, .ref x0), (1, .int x1)] [] 45 := by
  intro M x0 x1 hF
  unfold F_X9_readNumber_p45 at hF
  refine r_aload_n (pc := 45) 0 dX9_readNumber_45 rfl rfl ?_
  refine r_iload_n (pc := 46) 1 dX9_readNumber_46 rfl rfl ?_
  refine r_callV_V (pc := 47) (Py := P_X9_emit) (n := 1) (As := [.int x1]) (fun q e => k_X9_emit G _ x0 x1 q e) (c := 10) (Tb := TX9) (N := 6) rfl (by decide) (j0 := 0) rfl tw_784 tw_786 tw_17 tw_67 tw_787 hd_X9_emit ⟨Nat.le_of_ble_eq_true rfl, Nat.le_of_ble_eq_true rfl⟩ rfl [0] rfl rfl (Nat.le_of_ble_eq_true rfl) dX9_readNumber_47 hF (fun M1 r2 hF => ?_)
  exact r_vret (pc := 50) dX9_readNumber_50 hF
set_option maxHeartbeats 4000000 in
theorem w_X9_readNumber {X : Option Cx} {G : EG} {res : Mem × Unit} (M : Mem) (a0 : Nat) (hF : F_X9_readNumber M a0 = some res) : T X (RV G res) P_X9_readNumber M [(a0, 11)] [(0, .ref a0)] [] 0 := by
  unfold F_X9_readNumber at hF
  refine r_iconst (pc := 0) (w := 0) dX9_readNumber_0 (by decide) ?_
  refine r_istore_n (pc := 1) (L1 := [(1, .int ((0 : Int32))), (0, .ref a0)]) dX9_readNumber_1 rfl (by decide) rfl ?_
  refine r_iconst (pc := 2) (w := 0) dX9_readNumber_2 (by decide) ?_
  refine r_istore_n (pc := 3) (L1 := [(2, .int ((0 : Int32))), (1, .int ((0 : Int32))), (0, .ref a0)]) dX9_readNumber_3 rfl (by decide) rfl ?_
  exact T.sub ((w_X9_readNumber_p4 (w_X9_readNumber_p45) FU) M a0 (0 : Int32) (0 : Int32) hF) [0] [2, 1, 0] rfl rfl
theorem k_X9_readNumber (G : EG) (M : Mem) (a0 : Nat) (q : Mem × Unit) (h : F_X9_readNumber M a0 = some q) : Kt yX9_readNumber P_X9_readNumber M [(a0, 11)] [.ref a0] (RV G q) := Kt.of (by decide +kernel) rfl (Nat.le_of_ble_eq_true rfl) rfl (fun X hz => w_X9_readNumber M a0 h)
set_option maxHeartbeats 4000000 in
theorem w_X9_readSum_p7 {X : Option Cx} {G : EG} {res : Mem × Unit} {n0 : Nat} {rec : Nat → Mem → Nat → Int32 → Option (Mem × Unit)} (hrec : (∀ (M : Mem) (x : Nat) (d : Int32) (q : Mem × Unit), rec 0 M x d = some q → Kt yX9_readSum (P_X9_readSum n0) M [(x, 11)] [.ref x, .int d] (RV G q)) ∧ (∀ (M : Mem) (x : Nat) (d : Int32) (q : Mem × Unit), rec 1 M x d = some q → Kt yX9_readTerm (P_X9_readTerm n0) M [(x, 11)] [.ref x, .int d] (RV G q)) ∧ (∀ (M : Mem) (x : Nat) (d : Int32) (q : Mem × Unit), rec 2 M x d = some q → Kt yX9_readUnit (P_X9_readUnit n0) M [(x, 11)] [.ref x, .int d] (RV G q)) ∧ (∀ (M : Mem) (x : Nat) (d : Int32) (q : Mem × Unit), rec 3 M x d = some q → Kt yX9_readBracket (P_X9_readBracket n0) M [(x, 11)] [.ref x, .int d] (RV G q))) {k43 : Mem → Option (Mem × Unit)} (hk43 : ∀ (M : Mem), k43 M = some res → T X (RV G res) (RX9, cX9_readSum, 4, none, 20 + 2 * (n0 + 1), 500 + 60 * (n0 + 1)) M [] [] [] 43) : ∀ (n : Nat) (M : Mem) (x0 : Nat) (x1 : Int32) (x2 : Int32), F_X9_readSum_p7 rec k43 n M x0 x1 x2 = some res → T X (RV G res) (RX9, cX9_readSum, 4, none, 20 + 2 * (n0 + 1), 500 + 60 * (n0 + 1)) M [(x0, 11)] [(0, .ref x0), (1, .int x1), (2, .int x2)] [] 7 := by
  intro n
  induction n with
  | zero =>
    intro M x0 x1 x2 hF
    cases hF
  | succ n ih =>
    intro M x0 x1 x2 hF
    unfold F_X9_readSum_p7 at hF
    refine r_iload_n (pc := 7) 2 dX9_readSum_7 rfl rfl ?_
    refine r_bipush (pc := 8) (w := 60) dX9_readSum_8 (by decide) ?_
    refine r_icmp_ge (pc := 10) (tgt := 43) dX9_readSum_10 rfl hF (fun hF => ?_) (fun hF => ?_)
    · exact T.sub (hk43 M hF) [] [] rfl rfl
    · refine r_aload_n (pc := 13) 0 dX9_readSum_13 rfl rfl ?_
      refine r_ldcS (pc := 14) 0 (by decide) rfl rfl dX9_readSum_14 ?_
      refine r_callV_I (pc := 16) (Py := P_X9_isAt) (n := 1) (As := [.ref (G.1 0)]) (fun q e => k_X9_isAt G _ x0 0 (by decide) q e) (c := 10) (Tb := TX9) (N := 6) rfl (by decide) (j0 := 0) rfl tw_789 tw_791 tw_18 tw_67 tw_792 hd_X9_isAt ⟨by have h9 : (P_X9_isAt).2.2.2.2.1 + 1 ≤ 20 := Nat.le_of_ble_eq_true rfl; omega, by have h9 : 8 + ((P_X9_isAt).2.2.1 + 11) + (P_X9_isAt).2.2.2.2.2 ≤ 500 := Nat.le_of_ble_eq_true rfl; omega⟩ rfl [0] rfl rfl (Nat.le_of_ble_eq_true rfl) dX9_readSum_16 hF (fun M1 r2 hF => ?_)
      refine r_if_eq (pc := 19) (tgt := 43) dX9_readSum_19 rfl hF (fun hF => ?_) (fun hF => ?_)
      · exact T.sub (hk43 M1 hF) [] [] rfl rfl
      · refine r_aload_n (pc := 22) 0 dX9_readSum_22 rfl rfl ?_
        refine r_callV_I (pc := 23) (Py := P_X9_takeOperator) (n := 0) (As := []) (fun q e => k_X9_takeOperator G _ x0 q e) (c := 10) (Tb := TX9) (N := 6) rfl (by decide) (j0 := 0) rfl tw_881 tw_883 tw_20 tw_67 tw_884 hd_X9_takeOperator ⟨by have h9 : (P_X9_takeOperator).2.2.2.2.1 + 1 ≤ 20 := Nat.le_of_ble_eq_true rfl; omega, by have h9 : 8 + ((P_X9_takeOperator).2.2.1 + 11) + (P_X9_takeOperator).2.2.2.2.2 ≤ 500 := Nat.le_of_ble_eq_true rfl; omega⟩ rfl [0] rfl rfl (Nat.le_of_ble_eq_true rfl) dX9_readSum_23 hF (fun M3 r4 hF => ?_)
        refine r_istore_n (pc := 26) (L1 := [(3, .int r4), (0, .ref x0), (1, .int x1), (2, .int x2)]) dX9_readSum_26 rfl (by decide) rfl ?_
        refine r_aload_n (pc := 27) 1 dX9_readSum_27 rfl rfl ?_
        refine r_iload_n (pc := 28) 2 dX9_readSum_28 rfl rfl ?_
        refine r_callV_V (pc := 29) (Py := P_X9_readTerm n0) (n := 1) (As := [.int x1]) (fun q e => hrec.2.1 _ _ _ q e) (c := 10) (Tb := TX9) (N := 6) rfl (by decide) (j0 := 0) rfl tw_764 tw_766 tw_12 tw_67 tw_767 hd_X9_readTerm ⟨by dsimp only [P_X9_readTerm]; omega, by dsimp only [P_X9_readTerm]; omega⟩ rfl [0] rfl rfl (Nat.le_of_ble_eq_true rfl) dX9_readSum_29 hF (fun M5 r6 hF => ?_)
        refine r_aload_n (pc := 32) 1 dX9_readSum_32 rfl rfl ?_
        refine r_iload_n (pc := 33) 0 dX9_readSum_33 rfl rfl ?_
        refine r_callV_V (pc := 34) (Py := P_X9_emit) (n := 1) (As := [.int r4]) (fun q e => k_X9_emit G _ x0 r4 q e) (c := 10) (Tb := TX9) (N := 6) rfl (by decide) (j0 := 0) rfl tw_784 tw_786 tw_17 tw_67 tw_787 hd_X9_emit ⟨by have h9 : (P_X9_emit).2.2.2.2.1 + 1 ≤ 20 := Nat.le_of_ble_eq_true rfl; omega, by have h9 : 8 + ((P_X9_emit).2.2.1 + 11) + (P_X9_emit).2.2.2.2.2 ≤ 500 := Nat.le_of_ble_eq_true rfl; omega⟩ rfl [0] rfl rfl (Nat.le_of_ble_eq_true rfl) dX9_readSum_34 hF (fun M7 r8 hF => ?_)
        obtain ⟨v9, e9, hF⟩ := bnd_e hF
        refine r_iinc (pc := 37) (w := v9) (k := 3) (L1 := [(2, .int v9), (3, .int r4), (0, .ref x0), (1, .int x1)]) dX9_readSum_37 rfl (by rw [e9]; rfl) (by decide) rfl ?_
        clear e9
        refine r_goto (pc := 40) (tgt := 7) dX9_readSum_40 rfl ?_
        exact T.sub (ih M7 x0 x1 v9 hF) [0] [2, 3, 0] rfl rfl
set_option maxHeartbeats 4000000 in
theorem w_X9_readSum_p43 {X : Option Cx} {G : EG} {res : Mem × Unit} {n0 : Nat} {rec : Nat → Mem → Nat → Int32 → Option (Mem × Unit)} (hrec : (∀ (M : Mem) (x : Nat) (d : Int32) (q : Mem × Unit), rec 0 M x d = some q → Kt yX9_readSum (P_X9_readSum n0) M [(x, 11)] [.ref x, .int d] (RV G q)) ∧ (∀ (M : Mem) (x : Nat) (d : Int32) (q : Mem × Unit), rec 1 M x d = some q → Kt yX9_readTerm (P_X9_readTerm n0) M [(x, 11)] [.ref x, .int d] (RV G q)) ∧ (∀ (M : Mem) (x : Nat) (d : Int32) (q : Mem × Unit), rec 2 M x d = some q → Kt yX9_readUnit (P_X9_readUnit n0) M [(x, 11)] [.ref x, .int d] (RV G q)) ∧ (∀ (M : Mem) (x : Nat) (d : Int32) (q : Mem × Unit), rec 3 M x d = some q → Kt yX9_readBracket (P_X9_readBracket n0) M [(x, 11)] [.ref x, .int d] (RV G q))) : ∀ (M : Mem), F_X9_readSum_p43 rec M = some res → T X (RV G res) (RX9, cX9_readSum, 4, none, 20 + 2 * (n0 + 1), 500 + 60 * (n0 + 1)) M [] [] [] 43 := by
  intro M hF
  unfold F_X9_readSum_p43 at hF
  exact r_vret (pc := 43) dX9_readSum_43 hF
set_option maxHeartbeats 4000000 in
theorem w_X9_readSum {X : Option Cx} {G : EG} {res : Mem × Unit} {n0 : Nat} {rec : Nat → Mem → Nat → Int32 → Option (Mem × Unit)} (hrec : (∀ (M : Mem) (x : Nat) (d : Int32) (q : Mem × Unit), rec 0 M x d = some q → Kt yX9_readSum (P_X9_readSum n0) M [(x, 11)] [.ref x, .int d] (RV G q)) ∧ (∀ (M : Mem) (x : Nat) (d : Int32) (q : Mem × Unit), rec 1 M x d = some q → Kt yX9_readTerm (P_X9_readTerm n0) M [(x, 11)] [.ref x, .int d] (RV G q)) ∧ (∀ (M : Mem) (x : Nat) (d : Int32) (q : Mem × Unit), rec 2 M x d = some q → Kt yX9_readUnit (P_X9_readUnit n0) M [(x, 11)] [.ref x, .int d] (RV G q)) ∧ (∀ (M : Mem) (x : Nat) (d : Int32) (q : Mem × Unit), rec 3 M x d = some q → Kt yX9_readBracket (P_X9_readBracket n0) M [(x, 11)] [.ref x, .int d] (RV G q))) (M : Mem) (a0 : Nat) (a1 : Int32) (hF : B_X9_readSum rec M a0 a1 = some res) : T X (RV G res) (RX9, cX9_readSum, 4, none, 20 + 2 * (n0 + 1), 500 + 60 * (n0 + 1)) M [(a0, 11)] [(0, .ref a0), (1, .int a1)] [] 0 := by
  unfold B_X9_readSum at hF
  refine r_aload_n (pc := 0) 0 dX9_readSum_0 rfl rfl ?_
  refine r_iload_n (pc := 1) 1 dX9_readSum_1 rfl rfl ?_
  refine r_callV_V (pc := 2) (Py := P_X9_readTerm n0) (n := 1) (As := [.int a1]) (fun q e => hrec.2.1 _ _ _ q e) (c := 10) (Tb := TX9) (N := 6) rfl (by decide) (j0 := 0) rfl tw_764 tw_766 tw_12 tw_67 tw_767 hd_X9_readTerm ⟨by dsimp only [P_X9_readTerm]; omega, by dsimp only [P_X9_readTerm]; omega⟩ rfl [0] rfl rfl (Nat.le_of_ble_eq_true rfl) dX9_readSum_2 hF (fun M1 r2 hF => ?_)
  refine r_iconst (pc := 5) (w := 0) dX9_readSum_5 (by decide) ?_
  refine r_istore_n (pc := 6) (L1 := [(2, .int ((0 : Int32))), (0, .ref a0), (1, .int a1)]) dX9_readSum_6 rfl (by decide) rfl ?_
  exact T.sub ((w_X9_readSum_p7 hrec (w_X9_readSum_p43 hrec) FU) M1 a0 a1 (0 : Int32) hF) [0] [1, 2, 0] rfl rfl
theorem kb_X9_readSum (G : EG) {n0 : Nat} {rec : Nat → Mem → Nat → Int32 → Option (Mem × Unit)} (hrec : (∀ (M : Mem) (x : Nat) (d : Int32) (q : Mem × Unit), rec 0 M x d = some q → Kt yX9_readSum (P_X9_readSum n0) M [(x, 11)] [.ref x, .int d] (RV G q)) ∧ (∀ (M : Mem) (x : Nat) (d : Int32) (q : Mem × Unit), rec 1 M x d = some q → Kt yX9_readTerm (P_X9_readTerm n0) M [(x, 11)] [.ref x, .int d] (RV G q)) ∧ (∀ (M : Mem) (x : Nat) (d : Int32) (q : Mem × Unit), rec 2 M x d = some q → Kt yX9_readUnit (P_X9_readUnit n0) M [(x, 11)] [.ref x, .int d] (RV G q)) ∧ (∀ (M : Mem) (x : Nat) (d : Int32) (q : Mem × Unit), rec 3 M x d = some q → Kt yX9_readBracket (P_X9_readBracket n0) M [(x, 11)] [.ref x, .int d] (RV G q))) (M : Mem) (a0 : Nat) (a1 : Int32) (q : Mem × Unit) (h : B_X9_readSum rec M a0 a1 = some q) : Kt yX9_readSum (P_X9_readSum (n0 + 1)) M [(a0, 11)] [.ref a0, .int a1] (RV G q) := Kt.of (by decide +kernel) rfl (Nat.le_of_ble_eq_true rfl) rfl (fun X hz => w_X9_readSum hrec M a0 a1 h)
set_option maxHeartbeats 4000000 in
theorem w_X9_readTerm_p7 {X : Option Cx} {G : EG} {res : Mem × Unit} {n0 : Nat} {rec : Nat → Mem → Nat → Int32 → Option (Mem × Unit)} (hrec : (∀ (M : Mem) (x : Nat) (d : Int32) (q : Mem × Unit), rec 0 M x d = some q → Kt yX9_readSum (P_X9_readSum n0) M [(x, 11)] [.ref x, .int d] (RV G q)) ∧ (∀ (M : Mem) (x : Nat) (d : Int32) (q : Mem × Unit), rec 1 M x d = some q → Kt yX9_readTerm (P_X9_readTerm n0) M [(x, 11)] [.ref x, .int d] (RV G q)) ∧ (∀ (M : Mem) (x : Nat) (d : Int32) (q : Mem × Unit), rec 2 M x d = some q → Kt yX9_readUnit (P_X9_readUnit n0) M [(x, 11)] [.ref x, .int d] (RV G q)) ∧ (∀ (M : Mem) (x : Nat) (d : Int32) (q : Mem × Unit), rec 3 M x d = some q → Kt yX9_readBracket (P_X9_readBracket n0) M [(x, 11)] [.ref x, .int d] (RV G q))) {k43 : Mem → Option (Mem × Unit)} (hk43 : ∀ (M : Mem), k43 M = some res → T X (RV G res) (RX9, cX9_readTerm, 4, none, 20 + 2 * (n0 + 1), 500 + 60 * (n0 + 1)) M [] [] [] 43) : ∀ (n : Nat) (M : Mem) (x0 : Nat) (x1 : Int32) (x2 : Int32), F_X9_readTerm_p7 rec k43 n M x0 x1 x2 = some res → T X (RV G res) (RX9, cX9_readTerm, 4, none, 20 + 2 * (n0 + 1), 500 + 60 * (n0 + 1)) M [(x0, 11)] [(0, .ref x0), (1, .int x1), (2, .int x2)] [] 7 := by
  intro n
  induction n with
  | zero =>
    intro M x0 x1 x2 hF
    cases hF
  | succ n ih =>
    intro M x0 x1 x2 hF
    unfold F_X9_readTerm_p7 at hF
    refine r_iload_n (pc := 7) 2 dX9_readTerm_7 rfl rfl ?_
    refine r_bipush (pc := 8) (w := 60) dX9_readTerm_8 (by decide) ?_
    refine r_icmp_ge (pc := 10) (tgt := 43) dX9_readTerm_10 rfl hF (fun hF => ?_) (fun hF => ?_)
    · exact T.sub (hk43 M hF) [] [] rfl rfl
    · refine r_aload_n (pc := 13) 0 dX9_readTerm_13 rfl rfl ?_
      refine r_ldcS (pc := 14) 1 (by decide) rfl rfl dX9_readTerm_14 ?_
      refine r_callV_I (pc := 16) (Py := P_X9_isAt) (n := 1) (As := [.ref (G.1 1)]) (fun q e => k_X9_isAt G _ x0 1 (by decide) q e) (c := 10) (Tb := TX9) (N := 6) rfl (by decide) (j0 := 0) rfl tw_789 tw_791 tw_18 tw_67 tw_792 hd_X9_isAt ⟨by have h9 : (P_X9_isAt).2.2.2.2.1 + 1 ≤ 20 := Nat.le_of_ble_eq_true rfl; omega, by have h9 : 8 + ((P_X9_isAt).2.2.1 + 11) + (P_X9_isAt).2.2.2.2.2 ≤ 500 := Nat.le_of_ble_eq_true rfl; omega⟩ rfl [0] rfl rfl (Nat.le_of_ble_eq_true rfl) dX9_readTerm_16 hF (fun M1 r2 hF => ?_)
      refine r_if_eq (pc := 19) (tgt := 43) dX9_readTerm_19 rfl hF (fun hF => ?_) (fun hF => ?_)
      · exact T.sub (hk43 M1 hF) [] [] rfl rfl
      · refine r_aload_n (pc := 22) 0 dX9_readTerm_22 rfl rfl ?_
        refine r_callV_I (pc := 23) (Py := P_X9_takeOperator) (n := 0) (As := []) (fun q e => k_X9_takeOperator G _ x0 q e) (c := 10) (Tb := TX9) (N := 6) rfl (by decide) (j0 := 0) rfl tw_881 tw_883 tw_20 tw_67 tw_884 hd_X9_takeOperator ⟨by have h9 : (P_X9_takeOperator).2.2.2.2.1 + 1 ≤ 20 := Nat.le_of_ble_eq_true rfl; omega, by have h9 : 8 + ((P_X9_takeOperator).2.2.1 + 11) + (P_X9_takeOperator).2.2.2.2.2 ≤ 500 := Nat.le_of_ble_eq_true rfl; omega⟩ rfl [0] rfl rfl (Nat.le_of_ble_eq_true rfl) dX9_readTerm_23 hF (fun M3 r4 hF => ?_)
        refine r_istore_n (pc := 26) (L1 := [(3, .int r4), (0, .ref x0), (1, .int x1), (2, .int x2)]) dX9_readTerm_26 rfl (by decide) rfl ?_
        refine r_aload_n (pc := 27) 1 dX9_readTerm_27 rfl rfl ?_
        refine r_iload_n (pc := 28) 2 dX9_readTerm_28 rfl rfl ?_
        refine r_callV_V (pc := 29) (Py := P_X9_readUnit n0) (n := 1) (As := [.int x1]) (fun q e => hrec.2.2.1 _ _ _ q e) (c := 10) (Tb := TX9) (N := 6) rfl (by decide) (j0 := 0) rfl tw_768 tw_770 tw_13 tw_67 tw_771 hd_X9_readUnit ⟨by dsimp only [P_X9_readUnit]; omega, by dsimp only [P_X9_readUnit]; omega⟩ rfl [0] rfl rfl (Nat.le_of_ble_eq_true rfl) dX9_readTerm_29 hF (fun M5 r6 hF => ?_)
        refine r_aload_n (pc := 32) 1 dX9_readTerm_32 rfl rfl ?_
        refine r_iload_n (pc := 33) 0 dX9_readTerm_33 rfl rfl ?_
        refine r_callV_V (pc := 34) (Py := P_X9_emit) (n := 1) (As := [.int r4]) (fun q e => k_X9_emit G _ x0 r4 q e) (c := 10) (Tb := TX9) (N := 6) rfl (by decide) (j0 := 0) rfl tw_784 tw_786 tw_17 tw_67 tw_787 hd_X9_emit ⟨by have h9 : (P_X9_emit).2.2.2.2.1 + 1 ≤ 20 := Nat.le_of_ble_eq_true rfl; omega, by have h9 : 8 + ((P_X9_emit).2.2.1 + 11) + (P_X9_emit).2.2.2.2.2 ≤ 500 := Nat.le_of_ble_eq_true rfl; omega⟩ rfl [0] rfl rfl (Nat.le_of_ble_eq_true rfl) dX9_readTerm_34 hF (fun M7 r8 hF => ?_)
        obtain ⟨v9, e9, hF⟩ := bnd_e hF
        refine r_iinc (pc := 37) (w := v9) (k := 3) (L1 := [(2, .int v9), (3, .int r4), (0, .ref x0), (1, .int x1)]) dX9_readTerm_37 rfl (by rw [e9]; rfl) (by decide) rfl ?_
        clear e9
        refine r_goto (pc := 40) (tgt := 7) dX9_readTerm_40 rfl ?_
        exact T.sub (ih M7 x0 x1 v9 hF) [0] [2, 3, 0] rfl rfl
set_option maxHeartbeats 4000000 in
theorem w_X9_readTerm_p43 {X : Option Cx} {G : EG} {res : Mem × Unit} {n0 : Nat} {rec : Nat → Mem → Nat → Int32 → Option (Mem × Unit)} (hrec : (∀ (M : Mem) (x : Nat) (d : Int32) (q : Mem × Unit), rec 0 M x d = some q → Kt yX9_readSum (P_X9_readSum n0) M [(x, 11)] [.ref x, .int d] (RV G q)) ∧ (∀ (M : Mem) (x : Nat) (d : Int32) (q : Mem × Unit), rec 1 M x d = some q → Kt yX9_readTerm (P_X9_readTerm n0) M [(x, 11)] [.ref x, .int d] (RV G q)) ∧ (∀ (M : Mem) (x : Nat) (d : Int32) (q : Mem × Unit), rec 2 M x d = some q → Kt yX9_readUnit (P_X9_readUnit n0) M [(x, 11)] [.ref x, .int d] (RV G q)) ∧ (∀ (M : Mem) (x : Nat) (d : Int32) (q : Mem × Unit), rec 3 M x d = some q → Kt yX9_readBracket (P_X9_readBracket n0) M [(x, 11)] [.ref x, .int d] (RV G q))) : ∀ (M : Mem), F_X9_readTerm_p43 rec M = some res → T X (RV G res) (RX9, cX9_readTerm, 4, none, 20 + 2 * (n0 + 1), 500 + 60 * (n0 + 1)) M [] [] [] 43 := by
  intro M hF
  unfold F_X9_readTerm_p43 at hF
  exact r_vret (pc := 43) dX9_readTerm_43 hF
set_option maxHeartbeats 4000000 in
theorem w_X9_readTerm {X : Option Cx} {G : EG} {res : Mem × Unit} {n0 : Nat} {rec : Nat → Mem → Nat → Int32 → Option (Mem × Unit)} (hrec : (∀ (M : Mem) (x : Nat) (d : Int32) (q : Mem × Unit), rec 0 M x d = some q → Kt yX9_readSum (P_X9_readSum n0) M [(x, 11)] [.ref x, .int d] (RV G q)) ∧ (∀ (M : Mem) (x : Nat) (d : Int32) (q : Mem × Unit), rec 1 M x d = some q → Kt yX9_readTerm (P_X9_readTerm n0) M [(x, 11)] [.ref x, .int d] (RV G q)) ∧ (∀ (M : Mem) (x : Nat) (d : Int32) (q : Mem × Unit), rec 2 M x d = some q → Kt yX9_readUnit (P_X9_readUnit n0) M [(x, 11)] [.ref x, .int d] (RV G q)) ∧ (∀ (M : Mem) (x : Nat) (d : Int32) (q : Mem × Unit), rec 3 M x d = some q → Kt yX9_readBracket (P_X9_readBracket n0) M [(x, 11)] [.ref x, .int d] (RV G q))) (M : Mem) (a0 : Nat) (a1 : Int32) (hF : B_X9_readTerm rec M a0 a1 = some res) : T X (RV G res) (RX9, cX9_readTerm, 4, none, 20 + 2 * (n0 + 1), 500 + 60 * (n0 + 1)) M [(a0, 11)] [(0, .ref a0), (1, .int a1)] [] 0 := by
  unfold B_X9_readTerm at hF
  refine r_aload_n (pc := 0) 0 dX9_readTerm_0 rfl rfl ?_
  refine r_iload_n (pc := 1) 1 dX9_readTerm_1 rfl rfl ?_
  refine r_callV_V (pc := 2) (Py := P_X9_readUnit n0) (n := 1) (As := [.int a1]) (fun q e => hrec.2.2.1 _ _ _ q e) (c := 10) (Tb := TX9) (N := 6) rfl (by decide) (j0 := 0) rfl tw_768 tw_770 tw_13 tw_67 tw_771 hd_X9_readUnit ⟨by dsimp only [P_X9_readUnit]; omega, by dsimp only [P_X9_readUnit]; omega⟩ rfl [0] rfl rfl (Nat.le_of_ble_eq_true rfl) dX9_readTerm_2 hF (fun M1 r2 hF => ?_)
  refine r_iconst (pc := 5) (w := 0) dX9_readTerm_5 (by decide) ?_
  refine r_istore_n (pc := 6) (L1 := [(2, .int ((0 : Int32))), (0, .ref a0), (1, .int a1)]) dX9_readTerm_6 rfl (by decide) rfl ?_
  exact T.sub ((w_X9_readTerm_p7 hrec (w_X9_readTerm_p43 hrec) FU) M1 a0 a1 (0 : Int32) hF) [0] [1, 2, 0] rfl rfl
theorem kb_X9_readTerm (G : EG) {n0 : Nat} {rec : Nat → Mem → Nat → Int32 → Option (Mem × Unit)} (hrec : (∀ (M : Mem) (x : Nat) (d : Int32) (q : Mem × Unit), rec 0 M x d = some q → Kt yX9_readSum (P_X9_readSum n0) M [(x, 11)] [.ref x, .int d] (RV G q)) ∧ (∀ (M : Mem) (x : Nat) (d : Int32) (q : Mem × Unit), rec 1 M x d = some q → Kt yX9_readTerm (P_X9_readTerm n0) M [(x, 11)] [.ref x, .int d] (RV G q)) ∧ (∀ (M : Mem) (x : Nat) (d : Int32) (q : Mem × Unit), rec 2 M x d = some q → Kt yX9_readUnit (P_X9_readUnit n0) M [(x, 11)] [.ref x, .int d] (RV G q)) ∧ (∀ (M : Mem) (x : Nat) (d : Int32) (q : Mem × Unit), rec 3 M x d = some q → Kt yX9_readBracket (P_X9_readBracket n0) M [(x, 11)] [.ref x, .int d] (RV G q))) (M : Mem) (a0 : Nat) (a1 : Int32) (q : Mem × Unit) (h : B_X9_readTerm rec M a0 a1 = some q) : Kt yX9_readTerm (P_X9_readTerm (n0 + 1)) M [(a0, 11)] [.ref a0, .int a1] (RV G q) := Kt.of (by decide +kernel) rfl (Nat.le_of_ble_eq_true rfl) rfl (fun X hz => w_X9_readTerm hrec M a0 a1 h)
set_option maxHeartbeats 4000000 in
theorem w_X9_readUnit_p90 {X : Option Cx} {G : EG} {res : Mem × Unit} {n0 : Nat} {rec : Nat → Mem → Nat → Int32 → Option (Mem × Unit)} (hrec : (∀ (M : Mem) (x : Nat) (d : Int32) (q : Mem × Unit), rec 0 M x d = some q → Kt yX9_readSum (P_X9_readSum n0) M [(x, 11)] [.ref x, .int d] (RV G q)) ∧ (∀ (M : Mem) (x : Nat) (d : Int32) (q : Mem × Unit), rec 1 M x d = some q → Kt yX9_readTerm (P_X9_readTerm n0) M [(x, 11)] [.ref x, .int d] (RV G q)) ∧ (∀ (M : Mem) (x : Nat) (d : Int32) (q : Mem × Unit), rec 2 M x d = some q → Kt yX9_readUnit (P_X9_readUnit n0) M [(x, 11)] [.ref x, .int d] (RV G q)) ∧ (∀ (M : Mem) (x : Nat) (d : Int32) (q : Mem × Unit), rec 3 M x d = some q → Kt yX9_readBracket (P_X9_readBracket n0) M [(x, 11)] [.ref x, .int d] (RV G q))) : ∀ (M : Mem), F_X9_readUnit_p90 rec M = some res → T X (RV G res) (RX9, cX9_readUnit, 2, none, 20 + 2 * (n0 + 1), 500 + 60 * (n0 + 1)) M [] [] [] 90 := by
  intro M hF
  unfold F_X9_readUnit_p90 at hF
  exact r_vret (pc := 90) dX9_readUnit_90 hF
set_option maxHeartbeats 4000000 in
theorem w_X9_readUnit_p86 {X : Option Cx} {G : EG} {res : Mem × Unit} {n0 : Nat} {rec : Nat → Mem → Nat → Int32 → Option (Mem × Unit)} (hrec : (∀ (M : Mem) (x : Nat) (d : Int32) (q : Mem × Unit), rec 0 M x d = some q → Kt yX9_readSum (P_X9_readSum n0) M [(x, 11)] [.ref x, .int d] (RV G q)) ∧ (∀ (M : Mem) (x : Nat) (d : Int32) (q : Mem × Unit), rec 1 M x d = some q → Kt yX9_readTerm (P_X9_readTerm n0) M [(x, 11)] [.ref x, .int d] (RV G q)) ∧ (∀ (M : Mem) (x : Nat) (d : Int32) (q : Mem × Unit), rec 2 M x d = some q → Kt yX9_readUnit (P_X9_readUnit n0) M [(x, 11)] [.ref x, .int d] (RV G q)) ∧ (∀ (M : Mem) (x : Nat) (d : Int32) (q : Mem × Unit), rec 3 M x d = some q → Kt yX9_readBracket (P_X9_readBracket n0) M [(x, 11)] [.ref x, .int d] (RV G q))) : ∀ (M : Mem) (x0 : Nat), F_X9_readUnit_p86 rec M x0 = some res → T X (RV G res) (RX9, cX9_readUnit, 2, none, 20 + 2 * (n0 + 1), 500 + 60 * (n0 + 1)) M [(x0, 11)] [(0, .ref x0)] [] 86 := by
  intro M x0 hF
  unfold F_X9_readUnit_p86 at hF
  refine r_aload_n (pc := 86) 0 dX9_readUnit_86 rfl rfl ?_
  refine r_callV_V (pc := 87) (Py := P_X9_fail) (n := 0) (As := []) (fun q e => k_X9_fail G _ x0 q e) (c := 10) (Tb := TX9) (N := 6) rfl (by decide) (j0 := 0) rfl tw_887 tw_889 tw_21 tw_67 tw_890 hd_X9_fail ⟨by have h9 : (P_X9_fail).2.2.2.2.1 + 1 ≤ 20 := Nat.le_of_ble_eq_true rfl; omega, by have h9 : 8 + ((P_X9_fail).2.2.1 + 11) + (P_X9_fail).2.2.2.2.2 ≤ 500 := Nat.le_of_ble_eq_true rfl; omega⟩ rfl [0] rfl rfl (Nat.le_of_ble_eq_true rfl) dX9_readUnit_87 hF (fun M1 r2 hF => ?_)
  exact T.sub ((w_X9_readUnit_p90 hrec) M1 hF) [] [] rfl rfl
set_option maxHeartbeats 4000000 in
theorem w_X9_readUnit {X : Option Cx} {G : EG} {res : Mem × Unit} {n0 : Nat} {rec : Nat → Mem → Nat → Int32 → Option (Mem × Unit)} (hrec : (∀ (M : Mem) (x : Nat) (d : Int32) (q : Mem × Unit), rec 0 M x d = some q → Kt yX9_readSum (P_X9_readSum n0) M [(x, 11)] [.ref x, .int d] (RV G q)) ∧ (∀ (M : Mem) (x : Nat) (d : Int32) (q : Mem × Unit), rec 1 M x d = some q → Kt yX9_readTerm (P_X9_readTerm n0) M [(x, 11)] [.ref x, .int d] (RV G q)) ∧ (∀ (M : Mem) (x : Nat) (d : Int32) (q : Mem × Unit), rec 2 M x d = some q → Kt yX9_readUnit (P_X9_readUnit n0) M [(x, 11)] [.ref x, .int d] (RV G q)) ∧ (∀ (M : Mem) (x : Nat) (d : Int32) (q : Mem × Unit), rec 3 M x d = some q → Kt yX9_readBracket (P_X9_readBracket n0) M [(x, 11)] [.ref x, .int d] (RV G q))) (M : Mem) (a0 : Nat) (a1 : Int32) (hF : B_X9_readUnit rec M a0 a1 = some res) : T X (RV G res) (RX9, cX9_readUnit, 2, none, 20 + 2 * (n0 + 1), 500 + 60 * (n0 + 1)) M [(a0, 11)] [(0, .ref a0), (1, .int a1)] [] 0 := by
  unfold B_X9_readUnit at hF
  refine r_aload_n (pc := 0) 0 dX9_readUnit_0 rfl rfl ?_
  refine r_callV_I (pc := 1) (Py := P_X9_isAtDigit) (n := 0) (As := []) (fun q e => k_X9_isAtDigit G _ a0 q e) (c := 10) (Tb := TX9) (N := 6) rfl (by decide) (j0 := 0) rfl tw_772 tw_774 tw_14 tw_67 tw_775 hd_X9_isAtDigit ⟨by have h9 : (P_X9_isAtDigit).2.2.2.2.1 + 1 ≤ 20 := Nat.le_of_ble_eq_true rfl; omega, by have h9 : 8 + ((P_X9_isAtDigit).2.2.1 + 11) + (P_X9_isAtDigit).2.2.2.2.2 ≤ 500 := Nat.le_of_ble_eq_true rfl; omega⟩ rfl [0] rfl rfl (Nat.le_of_ble_eq_true rfl) dX9_readUnit_1 hF (fun M1 r2 hF => ?_)
  refine r_if_eq (pc := 4) (tgt := 14) dX9_readUnit_4 rfl hF (fun hF => ?_) (fun hF => ?_)
  · refine r_aload_n (pc := 14) 0 dX9_readUnit_14 rfl rfl ?_
    refine r_ldcS (pc := 15) 2 (by decide) rfl rfl dX9_readUnit_15 ?_
    refine r_callV_I (pc := 17) (Py := P_X9_isAt) (n := 1) (As := [.ref (G.1 2)]) (fun q e => k_X9_isAt G _ a0 2 (by decide) q e) (c := 10) (Tb := TX9) (N := 6) rfl (by decide) (j0 := 0) rfl tw_789 tw_791 tw_18 tw_67 tw_792 hd_X9_isAt ⟨by have h9 : (P_X9_isAt).2.2.2.2.1 + 1 ≤ 20 := Nat.le_of_ble_eq_true rfl; omega, by have h9 : 8 + ((P_X9_isAt).2.2.1 + 11) + (P_X9_isAt).2.2.2.2.2 ≤ 500 := Nat.le_of_ble_eq_true rfl; omega⟩ rfl [0] rfl rfl (Nat.le_of_ble_eq_true rfl) dX9_readUnit_17 hF (fun M3 r4 hF => ?_)
    refine r_if_eq (pc := 20) (tgt := 52) dX9_readUnit_20 rfl hF (fun hF => ?_) (fun hF => ?_)
    · refine r_aload_n (pc := 52) 0 dX9_readUnit_52 rfl rfl ?_
      refine r_ldcS (pc := 53) 3 (by decide) rfl rfl dX9_readUnit_53 ?_
      refine r_callV_I (pc := 55) (Py := P_X9_isAt) (n := 1) (As := [.ref (G.1 3)]) (fun q e => k_X9_isAt G _ a0 3 (by decide) q e) (c := 10) (Tb := TX9) (N := 6) rfl (by decide) (j0 := 0) rfl tw_789 tw_791 tw_18 tw_67 tw_792 hd_X9_isAt ⟨by have h9 : (P_X9_isAt).2.2.2.2.1 + 1 ≤ 20 := Nat.le_of_ble_eq_true rfl; omega, by have h9 : 8 + ((P_X9_isAt).2.2.1 + 11) + (P_X9_isAt).2.2.2.2.2 ≤ 500 := Nat.le_of_ble_eq_true rfl; omega⟩ rfl [0] rfl rfl (Nat.le_of_ble_eq_true rfl) dX9_readUnit_55 hF (fun M5 r6 hF => ?_)
      refine r_if_eq (pc := 58) (tgt := 86) dX9_readUnit_58 rfl hF (fun hF => ?_) (fun hF => ?_)
      · exact T.sub ((w_X9_readUnit_p86 hrec) M5 a0 hF) [0] [0] rfl rfl
      · refine r_iload_n (pc := 61) 1 dX9_readUnit_61 rfl rfl ?_
        refine r_iconst (pc := 62) (w := 5) dX9_readUnit_62 (by decide) ?_
        refine r_icmp_ge (pc := 63) (tgt := 86) dX9_readUnit_63 rfl hF (fun hF => ?_) (fun hF => ?_)
        · exact T.sub ((w_X9_readUnit_p86 hrec) M5 a0 hF) [0] [0] rfl rfl
        · refine r_aload_n (pc := 66) 0 dX9_readUnit_66 rfl rfl ?_
          refine r_dup (pc := 67) dX9_readUnit_67 rfl ?_
          refine gf_X9_22 (pc := 68) (j := 0) rfl dX9_readUnit_68 ?_
          refine r_iconst (pc := 71) (w := 1) dX9_readUnit_71 (by decide) ?_
          refine r_iadd (pc := 72) dX9_readUnit_72 ?_
          refine pf_X9_22 (pc := 73) (j := 0) rfl dX9_readUnit_73 hF (fun M7 hF => ?_)
          refine r_aload_n (pc := 76) 0 dX9_readUnit_76 rfl rfl ?_
          refine r_iload_n (pc := 77) 1 dX9_readUnit_77 rfl rfl ?_
          refine r_iconst (pc := 78) (w := 1) dX9_readUnit_78 (by decide) ?_
          refine r_iadd (pc := 79) dX9_readUnit_79 ?_
          refine r_callV_V (pc := 80) (Py := P_X9_readBracket n0) (n := 1) (As := [.int (a1 + (1 : Int32))]) (fun q e => hrec.2.2.2 _ _ _ q e) (c := 10) (Tb := TX9) (N := 6) rfl (by decide) (j0 := 0) rfl tw_876 tw_878 tw_19 tw_67 tw_879 hd_X9_readBracket ⟨by dsimp only [P_X9_readBracket]; omega, by dsimp only [P_X9_readBracket]; omega⟩ rfl [0] rfl rfl (Nat.le_of_ble_eq_true rfl) dX9_readUnit_80 hF (fun M8 r9 hF => ?_)
          refine r_goto (pc := 83) (tgt := 90) dX9_readUnit_83 rfl ?_
          exact T.sub ((w_X9_readUnit_p90 hrec) M8 hF) [] [] rfl rfl
    · refine r_aload_n (pc := 23) 0 dX9_readUnit_23 rfl rfl ?_
      refine r_iconst (pc := 24) (w := -1) dX9_readUnit_24 (by decide) ?_
      refine r_ldcS (pc := 25) 2 (by decide) rfl rfl dX9_readUnit_25 ?_
      refine r_aload_n (pc := 27) 0 dX9_readUnit_27 rfl rfl ?_
      refine r_callV_I (pc := 28) (Py := P_X9_seen) (n := 0) (As := []) (fun q e => k_X9_seen G _ a0 q e) (c := 10) (Tb := TX9) (N := 6) rfl (by decide) (j0 := 0) rfl tw_776 tw_778 tw_15 tw_67 tw_779 hd_X9_seen ⟨by have h9 : (P_X9_seen).2.2.2.2.1 + 1 ≤ 20 := Nat.le_of_ble_eq_true rfl; omega, by have h9 : 8 + ((P_X9_seen).2.2.1 + 11) + (P_X9_seen).2.2.2.2.2 ≤ 500 := Nat.le_of_ble_eq_true rfl; omega⟩ rfl [0] rfl rfl (Nat.le_of_ble_eq_true rfl) dX9_readUnit_28 hF (fun M10 r11 hF => ?_)
      refine r_i2c (pc := 31) dX9_readUnit_31 ?_
      refine r_callVS_I (pc := 32) (Py := P_J0_indexOf_0f7a4) (n := 1) (As := [.int ((r11.toUInt32 % 65536).toInt32)]) (fun q e => k_J0_indexOf_0f7a4 G _ 2 ((r11.toUInt32 % 65536).toInt32) (by decide) q e) (i := 2) (by decide) rfl tw_793 tw_794 tw_795 tw_80 tw_796 hd_J0_indexOf_0f7a4 ⟨by have h9 : (P_J0_indexOf_0f7a4).2.2.2.2.1 + 1 ≤ 20 := Nat.le_of_ble_eq_true rfl; omega, by have h9 : 8 + ((P_J0_indexOf_0f7a4).2.2.1 + 11) + (P_J0_indexOf_0f7a4).2.2.2.2.2 ≤ 500 := Nat.le_of_ble_eq_true rfl; omega⟩ rfl [] rfl rfl (Nat.le_of_ble_eq_true rfl) dX9_readUnit_32 hF (fun M12 r13 hF => ?_)
      refine r_isub (pc := 35) dX9_readUnit_35 ?_
      refine r_callV_V (pc := 36) (Py := P_X9_emit) (n := 1) (As := [.int ((-1 : Int32) - r13)]) (fun q e => k_X9_emit G _ a0 ((-1 : Int32) - r13) q e) (c := 10) (Tb := TX9) (N := 6) rfl (by decide) (j0 := 0) rfl tw_784 tw_786 tw_17 tw_67 tw_787 hd_X9_emit ⟨by have h9 : (P_X9_emit).2.2.2.2.1 + 1 ≤ 20 := Nat.le_of_ble_eq_true rfl; omega, by have h9 : 8 + ((P_X9_emit).2.2.1 + 11) + (P_X9_emit).2.2.2.2.2 ≤ 500 := Nat.le_of_ble_eq_true rfl; omega⟩ rfl [0] rfl rfl (Nat.le_of_ble_eq_true rfl) dX9_readUnit_36 hF (fun M14 r15 hF => ?_)
      refine r_aload_n (pc := 39) 0 dX9_readUnit_39 rfl rfl ?_
      refine r_dup (pc := 40) dX9_readUnit_40 rfl ?_
      refine gf_X9_22 (pc := 41) (j := 0) rfl dX9_readUnit_41 ?_
      refine r_iconst (pc := 44) (w := 1) dX9_readUnit_44 (by decide) ?_
      refine r_iadd (pc := 45) dX9_readUnit_45 ?_
      refine pf_X9_22 (pc := 46) (j := 0) rfl dX9_readUnit_46 hF (fun M16 hF => ?_)
      refine r_goto (pc := 49) (tgt := 90) dX9_readUnit_49 rfl ?_
      exact T.sub ((w_X9_readUnit_p90 hrec) M16 hF) [] [] rfl rfl
  · refine r_aload_n (pc := 7) 0 dX9_readUnit_7 rfl rfl ?_
    refine r_callV_V (pc := 8) (Py := P_X9_readNumber) (n := 0) (As := []) (fun q e => k_X9_readNumber G _ a0 q e) (c := 10) (Tb := TX9) (N := 6) rfl (by decide) (j0 := 0) rfl tw_780 tw_782 tw_16 tw_67 tw_783 hd_X9_readNumber ⟨by have h9 : (P_X9_readNumber).2.2.2.2.1 + 1 ≤ 20 := Nat.le_of_ble_eq_true rfl; omega, by have h9 : 8 + ((P_X9_readNumber).2.2.1 + 11) + (P_X9_readNumber).2.2.2.2.2 ≤ 500 := Nat.le_of_ble_eq_true rfl; omega⟩ rfl [0] rfl rfl (Nat.le_of_ble_eq_true rfl) dX9_readUnit_8 hF (fun M17 r18 hF => ?_)
    refine r_goto (pc := 11) (tgt := 90) dX9_readUnit_11 rfl ?_
    exact T.sub ((w_X9_readUnit_p90 hrec) M17 hF) [] [] rfl rfl
theorem kb_X9_readUnit (G : EG) {n0 : Nat} {rec : Nat → Mem → Nat → Int32 → Option (Mem × Unit)} (hrec : (∀ (M : Mem) (x : Nat) (d : Int32) (q : Mem × Unit), rec 0 M x d = some q → Kt yX9_readSum (P_X9_readSum n0) M [(x, 11)] [.ref x, .int d] (RV G q)) ∧ (∀ (M : Mem) (x : Nat) (d : Int32) (q : Mem × Unit), rec 1 M x d = some q → Kt yX9_readTerm (P_X9_readTerm n0) M [(x, 11)] [.ref x, .int d] (RV G q)) ∧ (∀ (M : Mem) (x : Nat) (d : Int32) (q : Mem × Unit), rec 2 M x d = some q → Kt yX9_readUnit (P_X9_readUnit n0) M [(x, 11)] [.ref x, .int d] (RV G q)) ∧ (∀ (M : Mem) (x : Nat) (d : Int32) (q : Mem × Unit), rec 3 M x d = some q → Kt yX9_readBracket (P_X9_readBracket n0) M [(x, 11)] [.ref x, .int d] (RV G q))) (M : Mem) (a0 : Nat) (a1 : Int32) (q : Mem × Unit) (h : B_X9_readUnit rec M a0 a1 = some q) : Kt yX9_readUnit (P_X9_readUnit (n0 + 1)) M [(a0, 11)] [.ref a0, .int a1] (RV G q) := Kt.of (by decide +kernel) rfl (Nat.le_of_ble_eq_true rfl) rfl (fun X hz => w_X9_readUnit hrec M a0 a1 h)
set_option maxHeartbeats 4000000 in
theorem w_X9_readBracket_p55 {X : Option Cx} {G : EG} {res : Mem × Unit} {n0 : Nat} {rec : Nat → Mem → Nat → Int32 → Option (Mem × Unit)} (hrec : (∀ (M : Mem) (x : Nat) (d : Int32) (q : Mem × Unit), rec 0 M x d = some q → Kt yX9_readSum (P_X9_readSum n0) M [(x, 11)] [.ref x, .int d] (RV G q)) ∧ (∀ (M : Mem) (x : Nat) (d : Int32) (q : Mem × Unit), rec 1 M x d = some q → Kt yX9_readTerm (P_X9_readTerm n0) M [(x, 11)] [.ref x, .int d] (RV G q)) ∧ (∀ (M : Mem) (x : Nat) (d : Int32) (q : Mem × Unit), rec 2 M x d = some q → Kt yX9_readUnit (P_X9_readUnit n0) M [(x, 11)] [.ref x, .int d] (RV G q)) ∧ (∀ (M : Mem) (x : Nat) (d : Int32) (q : Mem × Unit), rec 3 M x d = some q → Kt yX9_readBracket (P_X9_readBracket n0) M [(x, 11)] [.ref x, .int d] (RV G q))) : ∀ (M : Mem), F_X9_readBracket_p55 rec M = some res → T X (RV G res) (RX9, cX9_readBracket, 3, none, 20 + 2 * (n0 + 1), 500 + 60 * (n0 + 1)) M [] [] [] 55 := by
  intro M hF
  unfold F_X9_readBracket_p55 at hF
  exact r_vret (pc := 55) dX9_readBracket_55 hF
set_option maxHeartbeats 4000000 in
theorem w_X9_readBracket_p29 {X : Option Cx} {G : EG} {res : Mem × Unit} {n0 : Nat} {rec : Nat → Mem → Nat → Int32 → Option (Mem × Unit)} (hrec : (∀ (M : Mem) (x : Nat) (d : Int32) (q : Mem × Unit), rec 0 M x d = some q → Kt yX9_readSum (P_X9_readSum n0) M [(x, 11)] [.ref x, .int d] (RV G q)) ∧ (∀ (M : Mem) (x : Nat) (d : Int32) (q : Mem × Unit), rec 1 M x d = some q → Kt yX9_readTerm (P_X9_readTerm n0) M [(x, 11)] [.ref x, .int d] (RV G q)) ∧ (∀ (M : Mem) (x : Nat) (d : Int32) (q : Mem × Unit), rec 2 M x d = some q → Kt yX9_readUnit (P_X9_readUnit n0) M [(x, 11)] [.ref x, .int d] (RV G q)) ∧ (∀ (M : Mem) (x : Nat) (d : Int32) (q : Mem × Unit), rec 3 M x d = some q → Kt yX9_readBracket (P_X9_readBracket n0) M [(x, 11)] [.ref x, .int d] (RV G q))) : ∀ (M : Mem) (x0 : Nat), F_X9_readBracket_p29 rec M x0 = some res → T X (RV G res) (RX9, cX9_readBracket, 3, none, 20 + 2 * (n0 + 1), 500 + 60 * (n0 + 1)) M [(x0, 11)] [(0, .ref x0)] [] 29 := by
  intro M x0 hF
  unfold F_X9_readBracket_p29 at hF
  refine r_aload_n (pc := 29) 0 dX9_readBracket_29 rfl rfl ?_
  refine r_ldcS (pc := 30) 5 (by decide) rfl rfl dX9_readBracket_30 ?_
  refine r_callV_I (pc := 32) (Py := P_X9_isAt) (n := 1) (As := [.ref (G.1 5)]) (fun q e => k_X9_isAt G _ x0 5 (by decide) q e) (c := 10) (Tb := TX9) (N := 6) rfl (by decide) (j0 := 0) rfl tw_789 tw_791 tw_18 tw_67 tw_792 hd_X9_isAt ⟨by have h9 : (P_X9_isAt).2.2.2.2.1 + 1 ≤ 20 := Nat.le_of_ble_eq_true rfl; omega, by have h9 : 8 + ((P_X9_isAt).2.2.1 + 11) + (P_X9_isAt).2.2.2.2.2 ≤ 500 := Nat.le_of_ble_eq_true rfl; omega⟩ rfl [0] rfl rfl (Nat.le_of_ble_eq_true rfl) dX9_readBracket_32 hF (fun M1 r2 hF => ?_)
  refine r_if_eq (pc := 35) (tgt := 51) dX9_readBracket_35 rfl hF (fun hF => ?_) (fun hF => ?_)
  · refine r_aload_n (pc := 51) 0 dX9_readBracket_51 rfl rfl ?_
    refine r_callV_V (pc := 52) (Py := P_X9_fail) (n := 0) (As := []) (fun q e => k_X9_fail G _ x0 q e) (c := 10) (Tb := TX9) (N := 6) rfl (by decide) (j0 := 0) rfl tw_887 tw_889 tw_21 tw_67 tw_890 hd_X9_fail ⟨by have h9 : (P_X9_fail).2.2.2.2.1 + 1 ≤ 20 := Nat.le_of_ble_eq_true rfl; omega, by have h9 : 8 + ((P_X9_fail).2.2.1 + 11) + (P_X9_fail).2.2.2.2.2 ≤ 500 := Nat.le_of_ble_eq_true rfl; omega⟩ rfl [0] rfl rfl (Nat.le_of_ble_eq_true rfl) dX9_readBracket_52 hF (fun M3 r4 hF => ?_)
    exact T.sub ((w_X9_readBracket_p55 hrec) M3 hF) [] [] rfl rfl
  · refine r_aload_n (pc := 38) 0 dX9_readBracket_38 rfl rfl ?_
    refine r_dup (pc := 39) dX9_readBracket_39 rfl ?_
    refine gf_X9_22 (pc := 40) (j := 0) rfl dX9_readBracket_40 ?_
    refine r_iconst (pc := 43) (w := 1) dX9_readBracket_43 (by decide) ?_
    refine r_iadd (pc := 44) dX9_readBracket_44 ?_
    refine pf_X9_22 (pc := 45) (j := 0) rfl dX9_readBracket_45 hF (fun M5 hF => ?_)
    refine r_goto (pc := 48) (tgt := 55) dX9_readBracket_48 rfl ?_
    exact T.sub ((w_X9_readBracket_p55 hrec) M5 hF) [] [] rfl rfl
set_option maxHeartbeats 4000000 in
theorem w_X9_readBracket {X : Option Cx} {G : EG} {res : Mem × Unit} {n0 : Nat} {rec : Nat → Mem → Nat → Int32 → Option (Mem × Unit)} (hrec : (∀ (M : Mem) (x : Nat) (d : Int32) (q : Mem × Unit), rec 0 M x d = some q → Kt yX9_readSum (P_X9_readSum n0) M [(x, 11)] [.ref x, .int d] (RV G q)) ∧ (∀ (M : Mem) (x : Nat) (d : Int32) (q : Mem × Unit), rec 1 M x d = some q → Kt yX9_readTerm (P_X9_readTerm n0) M [(x, 11)] [.ref x, .int d] (RV G q)) ∧ (∀ (M : Mem) (x : Nat) (d : Int32) (q : Mem × Unit), rec 2 M x d = some q → Kt yX9_readUnit (P_X9_readUnit n0) M [(x, 11)] [.ref x, .int d] (RV G q)) ∧ (∀ (M : Mem) (x : Nat) (d : Int32) (q : Mem × Unit), rec 3 M x d = some q → Kt yX9_readBracket (P_X9_readBracket n0) M [(x, 11)] [.ref x, .int d] (RV G q))) (M : Mem) (a0 : Nat) (a1 : Int32) (hF : B_X9_readBracket rec M a0 a1 = some res) : T X (RV G res) (RX9, cX9_readBracket, 3, none, 20 + 2 * (n0 + 1), 500 + 60 * (n0 + 1)) M [(a0, 11)] [(0, .ref a0), (1, .int a1)] [] 0 := by
  unfold B_X9_readBracket at hF
  refine r_aload_n (pc := 0) 0 dX9_readBracket_0 rfl rfl ?_
  refine r_iload_n (pc := 1) 1 dX9_readBracket_1 rfl rfl ?_
  refine r_callV_V (pc := 2) (Py := P_X9_readSum n0) (n := 1) (As := [.int a1]) (fun q e => hrec.1 _ _ _ q e) (c := 10) (Tb := TX9) (N := 6) rfl (by decide) (j0 := 0) rfl tw_760 tw_762 tw_11 tw_67 tw_763 hd_X9_readSum ⟨by dsimp only [P_X9_readSum]; omega, by dsimp only [P_X9_readSum]; omega⟩ rfl [0] rfl rfl (Nat.le_of_ble_eq_true rfl) dX9_readBracket_2 hF (fun M1 r2 hF => ?_)
  refine r_aload_n (pc := 5) 0 dX9_readBracket_5 rfl rfl ?_
  refine r_ldcS (pc := 6) 4 (by decide) rfl rfl dX9_readBracket_6 ?_
  refine r_callV_I (pc := 8) (Py := P_X9_isAt) (n := 1) (As := [.ref (G.1 4)]) (fun q e => k_X9_isAt G _ a0 4 (by decide) q e) (c := 10) (Tb := TX9) (N := 6) rfl (by decide) (j0 := 0) rfl tw_789 tw_791 tw_18 tw_67 tw_792 hd_X9_isAt ⟨by have h9 : (P_X9_isAt).2.2.2.2.1 + 1 ≤ 20 := Nat.le_of_ble_eq_true rfl; omega, by have h9 : 8 + ((P_X9_isAt).2.2.1 + 11) + (P_X9_isAt).2.2.2.2.2 ≤ 500 := Nat.le_of_ble_eq_true rfl; omega⟩ rfl [0] rfl rfl (Nat.le_of_ble_eq_true rfl) dX9_readBracket_8 hF (fun M3 r4 hF => ?_)
  refine r_if_eq (pc := 11) (tgt := 29) dX9_readBracket_11 rfl hF (fun hF => ?_) (fun hF => ?_)
  · exact T.sub ((w_X9_readBracket_p29 hrec) M3 a0 hF) [0] [0] rfl rfl
  · refine r_aload_n (pc := 14) 0 dX9_readBracket_14 rfl rfl ?_
    refine r_callV_I (pc := 15) (Py := P_X9_takeOperator) (n := 0) (As := []) (fun q e => k_X9_takeOperator G _ a0 q e) (c := 10) (Tb := TX9) (N := 6) rfl (by decide) (j0 := 0) rfl tw_881 tw_883 tw_20 tw_67 tw_884 hd_X9_takeOperator ⟨by have h9 : (P_X9_takeOperator).2.2.2.2.1 + 1 ≤ 20 := Nat.le_of_ble_eq_true rfl; omega, by have h9 : 8 + ((P_X9_takeOperator).2.2.1 + 11) + (P_X9_takeOperator).2.2.2.2.2 ≤ 500 := Nat.le_of_ble_eq_true rfl; omega⟩ rfl [0] rfl rfl (Nat.le_of_ble_eq_true rfl) dX9_readBracket_15 hF (fun M5 r6 hF => ?_)
    refine r_istore_n (pc := 18) (L1 := [(2, .int r6), (0, .ref a0), (1, .int a1)]) dX9_readBracket_18 rfl (by decide) rfl ?_
    refine r_aload_n (pc := 19) 1 dX9_readBracket_19 rfl rfl ?_
    refine r_iload_n (pc := 20) 2 dX9_readBracket_20 rfl rfl ?_
    refine r_callV_V (pc := 21) (Py := P_X9_readSum n0) (n := 1) (As := [.int a1]) (fun q e => hrec.1 _ _ _ q e) (c := 10) (Tb := TX9) (N := 6) rfl (by decide) (j0 := 0) rfl tw_760 tw_762 tw_11 tw_67 tw_763 hd_X9_readSum ⟨by dsimp only [P_X9_readSum]; omega, by dsimp only [P_X9_readSum]; omega⟩ rfl [0] rfl rfl (Nat.le_of_ble_eq_true rfl) dX9_readBracket_21 hF (fun M7 r8 hF => ?_)
    refine r_aload_n (pc := 24) 1 dX9_readBracket_24 rfl rfl ?_
    refine r_iload_n (pc := 25) 0 dX9_readBracket_25 rfl rfl ?_
    refine r_callV_V (pc := 26) (Py := P_X9_emit) (n := 1) (As := [.int r6]) (fun q e => k_X9_emit G _ a0 r6 q e) (c := 10) (Tb := TX9) (N := 6) rfl (by decide) (j0 := 0) rfl tw_784 tw_786 tw_17 tw_67 tw_787 hd_X9_emit ⟨by have h9 : (P_X9_emit).2.2.2.2.1 + 1 ≤ 20 := Nat.le_of_ble_eq_true rfl; omega, by have h9 : 8 + ((P_X9_emit).2.2.1 + 11) + (P_X9_emit).2.2.2.2.2 ≤ 500 := Nat.le_of_ble_eq_true rfl; omega⟩ rfl [0] rfl rfl (Nat.le_of_ble_eq_true rfl) dX9_readBracket_26 hF (fun M9 r10 hF => ?_)
    exact T.sub ((w_X9_readBracket_p29 hrec) M9 a0 hF) [0] [1] rfl rfl
theorem kb_X9_readBracket (G : EG) {n0 : Nat} {rec : Nat → Mem → Nat → Int32 → Option (Mem × Unit)} (hrec : (∀ (M : Mem) (x : Nat) (d : Int32) (q : Mem × Unit), rec 0 M x d = some q → Kt yX9_readSum (P_X9_readSum n0) M [(x, 11)] [.ref x, .int d] (RV G q)) ∧ (∀ (M : Mem) (x : Nat) (d : Int32) (q : Mem × Unit), rec 1 M x d = some q → Kt yX9_readTerm (P_X9_readTerm n0) M [(x, 11)] [.ref x, .int d] (RV G q)) ∧ (∀ (M : Mem) (x : Nat) (d : Int32) (q : Mem × Unit), rec 2 M x d = some q → Kt yX9_readUnit (P_X9_readUnit n0) M [(x, 11)] [.ref x, .int d] (RV G q)) ∧ (∀ (M : Mem) (x : Nat) (d : Int32) (q : Mem × Unit), rec 3 M x d = some q → Kt yX9_readBracket (P_X9_readBracket n0) M [(x, 11)] [.ref x, .int d] (RV G q))) (M : Mem) (a0 : Nat) (a1 : Int32) (q : Mem × Unit) (h : B_X9_readBracket rec M a0 a1 = some q) : Kt yX9_readBracket (P_X9_readBracket (n0 + 1)) M [(a0, 11)] [.ref a0, .int a1] (RV G q) := Kt.of (by decide +kernel) rfl (Nat.le_of_ble_eq_true rfl) rfl (fun X hz => w_X9_readBracket hrec M a0 a1 h)
theorem kg_X9 (G : EG) : ∀ n : Nat, (∀ (M : Mem) (x : Nat) (d : Int32) (q : Mem × Unit), F_X9_g n 0 M x d = some q → Kt yX9_readSum (P_X9_readSum n) M [(x, 11)] [.ref x, .int d] (RV G q)) ∧ (∀ (M : Mem) (x : Nat) (d : Int32) (q : Mem × Unit), F_X9_g n 1 M x d = some q → Kt yX9_readTerm (P_X9_readTerm n) M [(x, 11)] [.ref x, .int d] (RV G q)) ∧ (∀ (M : Mem) (x : Nat) (d : Int32) (q : Mem × Unit), F_X9_g n 2 M x d = some q → Kt yX9_readUnit (P_X9_readUnit n) M [(x, 11)] [.ref x, .int d] (RV G q)) ∧ (∀ (M : Mem) (x : Nat) (d : Int32) (q : Mem × Unit), F_X9_g n 3 M x d = some q → Kt yX9_readBracket (P_X9_readBracket n) M [(x, 11)] [.ref x, .int d] (RV G q)) := by
  intro n
  induction n with
  | zero =>
    refine ⟨?_, ?_, ?_, ?_⟩ <;> (intro M x d q h; cases h)
  | succ n ih => exact ⟨fun M x d q h => kb_X9_readSum G ih M x d q h, fun M x d q h => kb_X9_readTerm G ih M x d q h, fun M x d q h => kb_X9_readUnit G ih M x d q h, fun M x d q h => kb_X9_readBracket G ih M x d q h⟩
theorem k_X9_readSum (G : EG) (M : Mem) (x : Nat) (d : Int32) (q : Mem × Unit) (h : F_X9_g FD 0 M x d = some q) : Kt yX9_readSum (P_X9_readSum FD) M [(x, 11)] [.ref x, .int d] (RV G q) := (kg_X9 G FD).1 M x d q h
theorem k_X9_readTerm (G : EG) (M : Mem) (x : Nat) (d : Int32) (q : Mem × Unit) (h : F_X9_g FD 1 M x d = some q) : Kt yX9_readTerm (P_X9_readTerm FD) M [(x, 11)] [.ref x, .int d] (RV G q) := (kg_X9 G FD).2.1 M x d q h
theorem k_X9_readUnit (G : EG) (M : Mem) (x : Nat) (d : Int32) (q : Mem × Unit) (h : F_X9_g FD 2 M x d = some q) : Kt yX9_readUnit (P_X9_readUnit FD) M [(x, 11)] [.ref x, .int d] (RV G q) := (kg_X9 G FD).2.2.1 M x d q h
theorem k_X9_readBracket (G : EG) (M : Mem) (x : Nat) (d : Int32) (q : Mem × Unit) (h : F_X9_g FD 3 M x d = some q) : Kt yX9_readBracket (P_X9_readBracket FD) M [(x, 11)] [.ref x, .int d] (RV G q) := (kg_X9 G FD).2.2.2 M x d q h
set_option maxHeartbeats 4000000 in
theorem w_X9_compile_p35 {X : Option Cx} {G : EG} {res : Mem × Int32} : ∀ (M : Mem) (x0 : Nat), F_X9_compile_p35 M x0 = some res → T X (RI G res) P_X9_compile M [(x0, 11)] [(0, .ref x0)] [] 35 := by
  intro M x0 hF
  unfold F_X9_compile_p35 at hF
  refine r_aload_n (pc := 35) 0 dX9_compile_35 rfl rfl ?_
  refine gf_X9_28 (pc := 36) (j := 0) rfl dX9_compile_36 ?_
  exact r_iret (pc := 39) dX9_compile_39 hF
set_option maxHeartbeats 4000000 in
theorem w_X9_compile {X : Option Cx} {G : EG} {res : Mem × Int32} (M : Mem) (a0 : Nat) (hF : F_X9_compile M a0 = some res) : T X (RI G res) P_X9_compile M [(a0, 11)] [(0, .ref a0)] [] 0 := by
  unfold F_X9_compile at hF
  refine r_aload_n (pc := 0) 0 dX9_compile_0 rfl rfl ?_
  refine r_iconst (pc := 1) (w := 0) dX9_compile_1 (by decide) ?_
  refine pf_X9_22 (pc := 2) (j := 0) rfl dX9_compile_2 hF (fun M1 hF => ?_)
  refine r_aload_n (pc := 5) 0 dX9_compile_5 rfl rfl ?_
  refine r_iconst (pc := 6) (w := 0) dX9_compile_6 (by decide) ?_
  refine pf_X9_25 (pc := 7) (j := 0) rfl dX9_compile_7 hF (fun M2 hF => ?_)
  refine r_aload_n (pc := 10) 0 dX9_compile_10 rfl rfl ?_
  refine r_iconst (pc := 11) (w := -1) dX9_compile_11 (by decide) ?_
  refine pf_X9_28 (pc := 12) (j := 0) rfl dX9_compile_12 hF (fun M3 hF => ?_)
  refine r_aload_n (pc := 15) 0 dX9_compile_15 rfl rfl ?_
  refine r_iconst (pc := 16) (w := 0) dX9_compile_16 (by decide) ?_
  refine r_callV_V (pc := 17) (Py := P_X9_readSum FD) (n := 1) (As := [.int ((0 : Int32))]) (fun q e => k_X9_readSum G _ _ _ q e) (c := 10) (Tb := TX9) (N := 6) rfl (by decide) (j0 := 0) rfl tw_760 tw_762 tw_11 tw_67 tw_763 hd_X9_readSum ⟨Nat.le_of_ble_eq_true rfl, Nat.le_of_ble_eq_true rfl⟩ rfl [0] rfl rfl (Nat.le_of_ble_eq_true rfl) dX9_compile_17 hF (fun M4 r5 hF => ?_)
  refine r_aload_n (pc := 20) 0 dX9_compile_20 rfl rfl ?_
  refine gf_X9_22 (pc := 21) (j := 0) rfl dX9_compile_21 ?_
  refine r_aload_n (pc := 24) 0 dX9_compile_24 rfl rfl ?_
  refine gf_X9_18 (pc := 25) (j := 0) rfl dX9_compile_25 ?_
  refine r_icmp_ge (pc := 28) (tgt := 35) dX9_compile_28 rfl hF (fun hF => ?_) (fun hF => ?_)
  · exact T.sub ((w_X9_compile_p35) M4 a0 hF) [0] [0] rfl rfl
  · refine r_aload_n (pc := 31) 0 dX9_compile_31 rfl rfl ?_
    refine r_callV_V (pc := 32) (Py := P_X9_fail) (n := 0) (As := []) (fun q e => k_X9_fail G _ a0 q e) (c := 10) (Tb := TX9) (N := 6) rfl (by decide) (j0 := 0) rfl tw_887 tw_889 tw_21 tw_67 tw_890 hd_X9_fail ⟨Nat.le_of_ble_eq_true rfl, Nat.le_of_ble_eq_true rfl⟩ rfl [0] rfl rfl (Nat.le_of_ble_eq_true rfl) dX9_compile_32 hF (fun M6 r7 hF => ?_)
    exact T.sub ((w_X9_compile_p35) M6 a0 hF) [0] [0] rfl rfl
theorem k_X9_compile (G : EG) (M : Mem) (a0 : Nat) (q : Mem × Int32) (h : F_X9_compile M a0 = some q) : Kt yX9_compile P_X9_compile M [(a0, 11)] [.ref a0] (RI G q) := Kt.of (by decide +kernel) rfl (Nat.le_of_ble_eq_true rfl) rfl (fun X hz => w_X9_compile M a0 h)
set_option maxHeartbeats 4000000 in
theorem w_X11_rule_p59 {X : Option Cx} {G : EG} {res : Mem × Int32} : ∀ (M : Mem) (x0 : Nat), F_X11_rule_p59 M x0 = some res → T X (RI G res) P_X11_rule M [(x0, 13)] [(0, .ref x0)] [] 59 := by
  intro M x0 hF
  unfold F_X11_rule_p59 at hF
  refine r_aload_n (pc := 59) 0 dX11_rule_59 rfl rfl ?_
  refine r_bipush (pc := 60) (w := -6) dX11_rule_60 (by decide) ?_
  refine r_callV_I (pc := 62) (Py := P_X11_refuse) (n := 1) (As := [.int ((-6 : Int32))]) (fun q e => k_X11_refuse G _ x0 (-6 : Int32) q e) (c := 12) (Tb := TX11) (N := 11) rfl (by decide) (j0 := 0) rfl tw_322 tw_324 tw_0 tw_60 tw_325 hd_X11_refuse ⟨Nat.le_of_ble_eq_true rfl, Nat.le_of_ble_eq_true rfl⟩ rfl [0] rfl rfl (Nat.le_of_ble_eq_true rfl) dX11_rule_62 hF (fun M1 r2 hF => ?_)
  exact r_iret (pc := 65) dX11_rule_65 hF
set_option maxHeartbeats 4000000 in
theorem w_X11_rule_p16 {X : Option Cx} {G : EG} {res : Mem × Int32} : ∀ (M : Mem) (x0 : Nat) (x1 : Int32) (x2 : Int32), F_X11_rule_p16 M x0 x1 x2 = some res → T X (RI G res) P_X11_rule M [(x0, 13)] [(0, .ref x0), (1, .int x1), (2, .int x2)] [] 16 := by
  intro M x0 x1 x2 hF
  unfold F_X11_rule_p16 at hF
  refine r_iload_n (pc := 16) 2 dX11_rule_16 rfl rfl ?_
  refine r_aload_n (pc := 17) 0 dX11_rule_17 rfl rfl ?_
  refine gf_X11_49 (pc := 18) (j := 0) rfl dX11_rule_18 ?_
  refine r_lr (by decide) hF (fun b1 hF => ?_)
  refine gf_X11_67 (pc := 21) (j := 0) rfl dX11_rule_21 ?_
  refine r_bipush (pc := 24) (w := 24) dX11_rule_24 (by decide) ?_
  refine r_idivc (pc := 26) dX11_rule_26 (by decide) ?_
  refine r_icmp_ge (pc := 27) (tgt := 37) dX11_rule_27 rfl hF (fun hF => ?_) (fun hF => ?_)
  · refine r_iload_n (pc := 37) 2 dX11_rule_37 rfl rfl ?_
    refine r_sipush (pc := 38) (w := 333) dX11_rule_38 (by decide) ?_
    refine r_icmp_gt (pc := 41) (tgt := 59) dX11_rule_41 rfl hF (fun hF => ?_) (fun hF => ?_)
    · exact T.sub ((w_X11_rule_p59) M x0 hF) [1] [0] rfl rfl
    · refine r_aload_n (pc := 44) 0 dX11_rule_44 rfl rfl ?_
      refine gf_X11_26 (pc := 45) (j := 1) rfl dX11_rule_45 ?_
      refine r_lr (by decide) hF (fun b2 hF => ?_)
      refine gf_X11_198 (pc := 48) (j := 0) rfl dX11_rule_48 ?_
      refine r_lr (by decide) hF (fun b3 hF => ?_)
      refine r_callV_I (pc := 51) (Py := P_Jx4a65c_size_8abf5) (n := 0) (As := []) (fun q e => k_Jx4a65c_size_8abf5 G _ b3 q e) (c := 0) (Tb := TJx4a65c) (N := 3) rfl (by decide) (j0 := 0) rfl tw_470 tw_344 tw_345 tw_64 tw_346 hd_Jx4a65c_size_8abf5 ⟨Nat.le_of_ble_eq_true rfl, Nat.le_of_ble_eq_true rfl⟩ rfl [0] rfl rfl (Nat.le_of_ble_eq_true rfl) dX11_rule_51 hF (fun M4 r5 hF => ?_)
      refine r_bipush (pc := 54) (w := 30) dX11_rule_54 (by decide) ?_
      refine r_icmp_lt (pc := 56) (tgt := 66) dX11_rule_56 rfl hF (fun hF => ?_) (fun hF => ?_)
      · refine r_aload_n (pc := 66) 0 dX11_rule_66 rfl rfl ?_
        refine gf_X11_33 (pc := 67) (j := 3) rfl dX11_rule_67 ?_
        refine r_lr (by decide) hF (fun b6 hF => ?_)
        refine r_callV_I (pc := 70) (Py := P_X9_compile) (n := 0) (As := []) (fun q e => k_X9_compile G _ b6 q e) (c := 10) (Tb := TX9) (N := 6) rfl (by decide) (j0 := 0) rfl tw_756 tw_757 tw_758 tw_67 tw_759 hd_X9_compile ⟨Nat.le_of_ble_eq_true rfl, Nat.le_of_ble_eq_true rfl⟩ rfl [0] rfl rfl (Nat.le_of_ble_eq_true rfl) dX11_rule_70 hF (fun M7 r8 hF => ?_)
        refine r_istore_n (pc := 73) (L1 := [(3, .int r8), (0, .ref x0), (1, .int x1), (2, .int x2)]) dX11_rule_73 rfl (by decide) rfl ?_
        refine r_aload_n (pc := 74) 1 dX11_rule_74 rfl rfl ?_
        refine gf_X11_33 (pc := 75) (j := 4) rfl dX11_rule_75 ?_
        refine r_lr (by decide) hF (fun b9 hF => ?_)
        refine r_iconst (pc := 78) (w := 0) dX11_rule_78 (by decide) ?_
        refine pf_X11_193 (pc := 79) (j := 0) rfl dX11_rule_79 hF (fun M10 hF => ?_)
        refine r_iload_n (pc := 82) 0 dX11_rule_82 rfl rfl ?_
        refine r_iconst (pc := 83) (w := -1) dX11_rule_83 (by decide) ?_
        refine r_icmp_eq (pc := 84) (tgt := 92) dX11_rule_84 rfl hF (fun hF => ?_) (fun hF => ?_)
        · refine r_aload_n (pc := 92) 1 dX11_rule_92 rfl rfl ?_
          refine gf_X11_26 (pc := 93) (j := 5) rfl dX11_rule_93 ?_
          refine r_lr (by decide) hF (fun b11 hF => ?_)
          refine gf_X11_198 (pc := 96) (j := 0) rfl dX11_rule_96 ?_
          refine r_lr (by decide) hF (fun b12 hF => ?_)
          refine r_new (pc := 99) (c := 6) (N := 4) tin_X5 tyX5 tyX5_ok rfl rfl (by decide) tw_893 tw_894 tw_84 (by decide +kernel) dX11_rule_99 hF (fun b13 M14 hF => ?_)
          refine r_dup (pc := 102) dX11_rule_102 rfl ?_
          refine r_iload_n (pc := 103) 2 dX11_rule_103 rfl rfl ?_
          refine r_iload_n (pc := 104) 3 dX11_rule_104 rfl rfl ?_
          refine r_aload_n (pc := 105) 1 dX11_rule_105 rfl rfl ?_
          refine gf_X11_33 (pc := 106) (j := 8) rfl dX11_rule_106 ?_
          refine r_lr (by decide) hF (fun b15 hF => ?_)
          refine gf_X11_205 (pc := 109) (j := 0) rfl dX11_rule_109 ?_
          refine r_lr (by decide) hF (fun b16 hF => ?_)
          refine r_clone (pc := 112) (j := 0) rfl tw_895 tw_896 tw_897 tw_898 tw_899 tw_900 ⟨Nat.le_of_ble_eq_true rfl, Nat.le_of_ble_eq_true rfl⟩ (Nat.le_of_ble_eq_true rfl) dX11_rule_112 hF (fun b17 M18 hF => ?_)
          refine r_castI (pc := 115) (j := 0) rfl tw_901 dX11_rule_115 ?_
          refine r_aload_n (pc := 118) 1 dX11_rule_118 rfl rfl ?_
          refine gf_X11_33 (pc := 119) (j := 11) rfl dX11_rule_119 ?_
          refine r_lr (by decide) hF (fun b19 hF => ?_)
          refine gf_X11_213 (pc := 122) (j := 0) rfl dX11_rule_122 ?_
          refine r_callI_V (pc := 125) (Py := P_X5_init) (n := 4) (As := [.int x1, .int x2, .ref b17, .int (gI M18 1003 b19)]) (fun q e => k_X5_init G _ b13 x1 x2 b17 (gI M18 1003 b19) q e) tw_902 tw_903 tw_84 tw_904 rfl rfl hd_X5_init ⟨Nat.le_of_ble_eq_true rfl, Nat.le_of_ble_eq_true rfl⟩ rfl [4, 1] rfl rfl (Nat.le_of_ble_eq_true rfl) dX11_rule_125 hF (fun M20 r21 hF => ?_)
          refine r_callV_I (pc := 128) (Py := P_Jx4a65c_add_9ea2d) (n := 1) (As := [.ref b13]) (fun q e => k_Jx4a65c_add_9ea2d G _ b12 b13 q e) (c := 0) (Tb := TJx4a65c) (N := 3) rfl (by decide) (j0 := 5) rfl tw_619 tw_513 tw_514 tw_64 tw_515 hd_Jx4a65c_add_9ea2d ⟨Nat.le_of_ble_eq_true rfl, Nat.le_of_ble_eq_true rfl⟩ rfl [5] rfl rfl (Nat.le_of_ble_eq_true rfl) dX11_rule_128 hF (fun M22 r23 hF => ?_)
          refine r_pop (pc := 131) dX11_rule_131 rfl ?_
          refine r_aload_n (pc := 132) 1 dX11_rule_132 rfl rfl ?_
          refine gf_X11_26 (pc := 133) (j := 12) rfl dX11_rule_133 ?_
          refine r_lr (by decide) hF (fun b24 hF => ?_)
          refine gf_X11_198 (pc := 136) (j := 0) rfl dX11_rule_136 ?_
          refine r_lr (by decide) hF (fun b25 hF => ?_)
          refine r_callV_I (pc := 139) (Py := P_Jx4a65c_size_8abf5) (n := 0) (As := []) (fun q e => k_Jx4a65c_size_8abf5 G _ b25 q e) (c := 0) (Tb := TJx4a65c) (N := 3) rfl (by decide) (j0 := 0) rfl tw_470 tw_344 tw_345 tw_64 tw_346 hd_Jx4a65c_size_8abf5 ⟨Nat.le_of_ble_eq_true rfl, Nat.le_of_ble_eq_true rfl⟩ rfl [0] rfl rfl (Nat.le_of_ble_eq_true rfl) dX11_rule_139 hF (fun M26 r27 hF => ?_)
          exact r_iret (pc := 142) dX11_rule_142 hF
        · refine r_bipush (pc := 87) (w := -20) dX11_rule_87 (by decide) ?_
          refine r_iload_n (pc := 89) 0 dX11_rule_89 rfl rfl ?_
          refine r_isub (pc := 90) dX11_rule_90 ?_
          exact r_iret (pc := 91) dX11_rule_91 hF
      · exact T.sub ((w_X11_rule_p59) M4 x0 hF) [3] [0] rfl rfl
  · refine r_aload_n (pc := 30) 0 dX11_rule_30 rfl rfl ?_
    refine r_bipush (pc := 31) (w := -4) dX11_rule_31 (by decide) ?_
    refine r_callV_I (pc := 33) (Py := P_X11_refuse) (n := 1) (As := [.int ((-4 : Int32))]) (fun q e => k_X11_refuse G _ x0 (-4 : Int32) q e) (c := 12) (Tb := TX11) (N := 11) rfl (by decide) (j0 := 1) rfl tw_322 tw_324 tw_0 tw_60 tw_325 hd_X11_refuse ⟨Nat.le_of_ble_eq_true rfl, Nat.le_of_ble_eq_true rfl⟩ rfl [1] rfl rfl (Nat.le_of_ble_eq_true rfl) dX11_rule_33 hF (fun M28 r29 hF => ?_)
    exact r_iret (pc := 36) dX11_rule_36 hF
set_option maxHeartbeats 4000000 in
theorem w_X11_rule {X : Option Cx} {G : EG} {res : Mem × Int32} (M : Mem) (a0 : Nat) (a1 : Int32) (a2 : Int32) (hF : F_X11_rule M a0 a1 a2 = some res) : T X (RI G res) P_X11_rule M [(a0, 13)] [(0, .ref a0), (1, .int a1), (2, .int a2)] [] 0 := by
  unfold F_X11_rule at hF
  refine r_iload_n (pc := 0) 1 dX11_rule_0 rfl rfl ?_
  refine r_if_eq (pc := 1) (tgt := 16) dX11_rule_1 rfl hF (fun hF => ?_) (fun hF => ?_)
  · exact T.sub ((w_X11_rule_p16) M a0 a1 a2 hF) [0] [0, 1, 2] rfl rfl
  · refine r_iload_n (pc := 4) 1 dX11_rule_4 rfl rfl ?_
    refine r_iconst (pc := 5) (w := 1) dX11_rule_5 (by decide) ?_
    refine r_icmp_eq (pc := 6) (tgt := 16) dX11_rule_6 rfl hF (fun hF => ?_) (fun hF => ?_)
    · exact T.sub ((w_X11_rule_p16) M a0 a1 a2 hF) [0] [0, 1, 2] rfl rfl
    · refine r_aload_n (pc := 9) 0 dX11_rule_9 rfl rfl ?_
      refine r_bipush (pc := 10) (w := -2) dX11_rule_10 (by decide) ?_
      refine r_callV_I (pc := 12) (Py := P_X11_refuse) (n := 1) (As := [.int ((-2 : Int32))]) (fun q e => k_X11_refuse G _ a0 (-2 : Int32) q e) (c := 12) (Tb := TX11) (N := 11) rfl (by decide) (j0 := 0) rfl tw_322 tw_324 tw_0 tw_60 tw_325 hd_X11_refuse ⟨Nat.le_of_ble_eq_true rfl, Nat.le_of_ble_eq_true rfl⟩ rfl [0] rfl rfl (Nat.le_of_ble_eq_true rfl) dX11_rule_12 hF (fun M1 r2 hF => ?_)
      exact r_iret (pc := 15) dX11_rule_15 hF
theorem k_X11_rule (G : EG) (M : Mem) (a0 : Nat) (a1 : Int32) (a2 : Int32) (q : Mem × Int32) (h : F_X11_rule M a0 a1 a2 = some q) : Kt yX11_rule P_X11_rule M [(a0, 13)] [.ref a0, .int a1, .int a2] (RI G q) := Kt.of (by decide +kernel) rfl (Nat.le_of_ble_eq_true rfl) rfl (fun X hz => w_X11_rule M a0 a1 a2 h)
set_option maxHeartbeats 4000000 in
theorem w_X11_share {X : Option Cx} {G : EG} {res : Mem × Int32} (M : Mem) (a0 : Nat) (a1 : Int32) (hF : F_X11_share M a0 a1 = some res) : T X (RI G res) P_X11_share M [(a0, 13)] [(0, .ref a0), (1, .int a1)] [] 0 := by
  unfold F_X11_share at hF
  refine r_iload_n (pc := 0) 1 dX11_share_0 rfl rfl ?_
  refine r_iconst (pc := 1) (w := 0) dX11_share_1 (by decide) ?_
  refine r_sipush (pc := 2) (w := 999) dX11_share_2 (by decide) ?_
  refine r_callS_I (pc := 5) (Py := P_X11_beyond) (n := 3) (As := [.int a1, .int ((0 : Int32)), .int ((999 : Int32))]) (fun q e => k_X11_beyond G _ a1 (0 : Int32) (999 : Int32) q e) tw_319 tw_320 tw_60 tw_321 hd_X11_beyond ⟨Nat.le_of_ble_eq_true rfl, Nat.le_of_ble_eq_true rfl⟩ rfl [] rfl rfl (Nat.le_of_ble_eq_true rfl) dX11_share_5 hF (fun M1 r2 hF => ?_)
  refine r_istore_n (pc := 8) (L1 := [(2, .int r2), (0, .ref a0), (1, .int a1)]) dX11_share_8 rfl (by decide) rfl ?_
  refine r_iload_n (pc := 9) 0 dX11_share_9 rfl rfl ?_
  refine r_if_eq (pc := 10) (tgt := 19) dX11_share_10 rfl hF (fun hF => ?_) (fun hF => ?_)
  · refine r_aload_n (pc := 19) 1 dX11_share_19 rfl rfl ?_
    refine gf_X11_49 (pc := 20) (j := 0) rfl dX11_share_20 ?_
    refine r_lr (by decide) hF (fun b3 hF => ?_)
    refine gf_X11_108 (pc := 23) (j := 0) rfl dX11_share_23 ?_
    refine r_gI (pc := 26) hF (fun v4 hF => ?_)
    refine r_istore_n (pc := 26) (L1 := [(3, .int v4), (2, .int r2), (0, .ref a0), (1, .int a1)]) dX11_share_26 rfl (by decide) rfl ?_
    refine r_aload_n (pc := 27) 2 dX11_share_27 rfl rfl ?_
    refine gf_X11_49 (pc := 28) (j := 1) rfl dX11_share_28 ?_
    refine r_lr (by decide) hF (fun b5 hF => ?_)
    refine r_iload_n (pc := 31) 3 dX11_share_31 rfl rfl ?_
    refine pf_X11_108 (pc := 32) (j := 0) rfl dX11_share_32 hF (fun M6 hF => ?_)
    refine r_iload_n (pc := 35) 0 dX11_share_35 rfl rfl ?_
    exact r_iret (pc := 36) dX11_share_36 hF
  · refine r_aload_n (pc := 13) 1 dX11_share_13 rfl rfl ?_
    refine r_iload_n (pc := 14) 0 dX11_share_14 rfl rfl ?_
    refine r_callV_I (pc := 15) (Py := P_X11_refuse) (n := 1) (As := [.int r2]) (fun q e => k_X11_refuse G _ a0 r2 q e) (c := 12) (Tb := TX11) (N := 11) rfl (by decide) (j0 := 0) rfl tw_322 tw_324 tw_0 tw_60 tw_325 hd_X11_refuse ⟨Nat.le_of_ble_eq_true rfl, Nat.le_of_ble_eq_true rfl⟩ rfl [0] rfl rfl (Nat.le_of_ble_eq_true rfl) dX11_share_15 hF (fun M7 r8 hF => ?_)
    exact r_iret (pc := 18) dX11_share_18 hF
theorem k_X11_share (G : EG) (M : Mem) (a0 : Nat) (a1 : Int32) (q : Mem × Int32) (h : F_X11_share M a0 a1 = some q) : Kt yX11_share P_X11_share M [(a0, 13)] [.ref a0, .int a1] (RI G q) := Kt.of (by decide +kernel) rfl (Nat.le_of_ble_eq_true rfl) rfl (fun X hz => w_X11_share M a0 a1 h)
set_option maxHeartbeats 4000000 in
theorem w_X11_soil_p29 {X : Option Cx} {G : EG} {res : Mem × Int32} : ∀ (M : Mem) (x0 : Nat), F_X11_soil_p29 M x0 = some res → T X (RI G res) P_X11_soil M [(x0, 13)] [(0, .ref x0)] [] 29 := by
  intro M x0 hF
  unfold F_X11_soil_p29 at hF
  refine r_aload_n (pc := 29) 0 dX11_soil_29 rfl rfl ?_
  refine r_bipush (pc := 30) (w := -4) dX11_soil_30 (by decide) ?_
  refine r_callV_I (pc := 32) (Py := P_X11_refuse) (n := 1) (As := [.int ((-4 : Int32))]) (fun q e => k_X11_refuse G _ x0 (-4 : Int32) q e) (c := 12) (Tb := TX11) (N := 11) rfl (by decide) (j0 := 0) rfl tw_322 tw_324 tw_0 tw_60 tw_325 hd_X11_refuse ⟨Nat.le_of_ble_eq_true rfl, Nat.le_of_ble_eq_true rfl⟩ rfl [0] rfl rfl (Nat.le_of_ble_eq_true rfl) dX11_soil_32 hF (fun M1 r2 hF => ?_)
  exact r_iret (pc := 35) dX11_soil_35 hF
set_option maxHeartbeats 4000000 in
theorem w_X11_soil_p49 {X : Option Cx} {G : EG} {res : Mem × Int32} : ∀ (M : Mem) (x0 : Nat), F_X11_soil_p49 M x0 = some res → T X (RI G res) P_X11_soil M [(x0, 13)] [(0, .ref x0)] [] 49 := by
  intro M x0 hF
  unfold F_X11_soil_p49 at hF
  refine r_aload_n (pc := 49) 0 dX11_soil_49 rfl rfl ?_
  refine r_bipush (pc := 50) (w := -6) dX11_soil_50 (by decide) ?_
  refine r_callV_I (pc := 52) (Py := P_X11_refuse) (n := 1) (As := [.int ((-6 : Int32))]) (fun q e => k_X11_refuse G _ x0 (-6 : Int32) q e) (c := 12) (Tb := TX11) (N := 11) rfl (by decide) (j0 := 0) rfl tw_322 tw_324 tw_0 tw_60 tw_325 hd_X11_refuse ⟨Nat.le_of_ble_eq_true rfl, Nat.le_of_ble_eq_true rfl⟩ rfl [0] rfl rfl (Nat.le_of_ble_eq_true rfl) dX11_soil_52 hF (fun M1 r2 hF => ?_)
  exact r_iret (pc := 55) dX11_soil_55 hF
set_option maxHeartbeats 4000000 in
theorem w_X11_soil {X : Option Cx} {G : EG} {res : Mem × Int32} (M : Mem) (a0 : Nat) (a1 : Int32) (a2 : Int32) (a3 : Int32) (hF : F_X11_soil M a0 a1 a2 a3 = some res) : T X (RI G res) P_X11_soil M [(a0, 13)] [(0, .ref a0), (1, .int a1), (2, .int a2), (3, .int a3)] [] 0 := by
  unfold F_X11_soil at hF
  refine r_aload_n (pc := 0) 0 dX11_soil_0 rfl rfl ?_
  refine gf_X11_49 (pc := 1) (j := 0) rfl dX11_soil_1 ?_
  refine r_lr (by decide) hF (fun b1 hF => ?_)
  refine r_iload_n (pc := 4) 1 dX11_soil_4 rfl rfl ?_
  refine r_callV_R (pc := 5) (Py := P_X1_find) (n := 1) (As := [.int a1]) (fun q e => k_X1_find G _ b1 a1 q e) (c := 2) (Tb := TX1) (N := 7) rfl (by decide) (j0 := 0) rfl tw_624 tw_625 tw_626 tw_69 tw_627 hd_X1_find ⟨Nat.le_of_ble_eq_true rfl, Nat.le_of_ble_eq_true rfl⟩ rfl [0] rfl rfl (Nat.le_of_ble_eq_true rfl) dX11_soil_5 hF (fun M2 r3 hF => ?_)
  refine r_astoreo (pc := 8) (r := r3) (L1 := [(4, va_rf r3), (0, .ref a0), (1, .int a1), (2, .int a2), (3, .int a3)]) dX11_soil_8 (by decide) rfl ?_
  refine r_aloado (pc := 10) 0 dX11_soil_10 rfl ?_
  refine r_ifnonnull (pc := 12) (tgt := 21) dX11_soil_12 rfl hF (fun e9 h0 => ?_) (fun b4 e9 h0 => ?_)
  · clear hF
    subst e9
    have hF := h0
    clear h0
    refine r_aload_n (pc := 15) 1 dX11_soil_15 rfl rfl ?_
    refine r_iconst (pc := 16) (w := -1) dX11_soil_16 (by decide) ?_
    refine r_callV_I (pc := 17) (Py := P_X11_refuse) (n := 1) (As := [.int ((-1 : Int32))]) (fun q e => k_X11_refuse G _ a0 (-1 : Int32) q e) (c := 12) (Tb := TX11) (N := 11) rfl (by decide) (j0 := 1) rfl tw_322 tw_324 tw_0 tw_60 tw_325 hd_X11_refuse ⟨Nat.le_of_ble_eq_true rfl, Nat.le_of_ble_eq_true rfl⟩ rfl [1] rfl rfl (Nat.le_of_ble_eq_true rfl) dX11_soil_17 hF (fun M5 r6 hF => ?_)
    exact r_iret (pc := 20) dX11_soil_20 hF
  · clear hF
    subst e9
    have hF := h0
    clear h0
    refine r_iload_n (pc := 21) 3 dX11_soil_21 rfl rfl ?_
    refine r_if_lt (pc := 22) (tgt := 29) dX11_soil_22 rfl hF (fun hF => ?_) (fun hF => ?_)
    · exact T.sub ((w_X11_soil_p29) M2 a0 hF) [1] [1] rfl rfl
    · refine r_iload_n (pc := 25) 4 dX11_soil_25 rfl rfl ?_
      refine r_if_ge (pc := 26) (tgt := 36) dX11_soil_26 rfl hF (fun hF => ?_) (fun hF => ?_)
      · refine r_iload_n (pc := 36) 3 dX11_soil_36 rfl rfl ?_
        refine r_sipush (pc := 37) (w := 999) dX11_soil_37 (by decide) ?_
        refine r_icmp_gt (pc := 40) (tgt := 49) dX11_soil_40 rfl hF (fun hF => ?_) (fun hF => ?_)
        · exact T.sub ((w_X11_soil_p49) M2 a0 hF) [1] [1] rfl rfl
        · refine r_iload_n (pc := 43) 4 dX11_soil_43 rfl rfl ?_
          refine r_bipush (pc := 44) (w := 100) dX11_soil_44 (by decide) ?_
          refine r_icmp_le (pc := 46) (tgt := 56) dX11_soil_46 rfl hF (fun hF => ?_) (fun hF => ?_)
          · refine r_aload (pc := 56) 0 dX11_soil_56 rfl ?_
            refine r_kind (by decide) hF (fun hF => ?_)
            refine gf_X11_102 (pc := 58) (j := 0) rfl dX11_soil_58 ?_
            refine r_gI (pc := 61) hF (fun v7 hF => ?_)
            refine r_istore (pc := 61) (L1 := [(5, .int v7), (4, .ref b4), (0, .ref a0), (1, .int a1), (2, .int a2), (3, .int a3)]) dX11_soil_61 (by decide) rfl ?_
            refine r_aload (pc := 63) 1 dX11_soil_63 rfl ?_
            refine r_iload_n (pc := 65) 4 dX11_soil_65 rfl rfl ?_
            refine pf_X11_102 (pc := 66) (j := 0) rfl dX11_soil_66 hF (fun M8 hF => ?_)
            refine r_aload (pc := 69) 1 dX11_soil_69 rfl ?_
            refine r_iload_n (pc := 71) 5 dX11_soil_71 rfl rfl ?_
            refine pf_X11_105 (pc := 72) (j := 0) rfl dX11_soil_72 hF (fun M9 hF => ?_)
            refine r_iload (pc := 75) 0 dX11_soil_75 rfl ?_
            exact r_iret (pc := 77) dX11_soil_77 hF
          · exact T.sub ((w_X11_soil_p49) M2 a0 hF) [1] [1] rfl rfl
      · exact T.sub ((w_X11_soil_p29) M2 a0 hF) [1] [1] rfl rfl
theorem k_X11_soil (G : EG) (M : Mem) (a0 : Nat) (a1 : Int32) (a2 : Int32) (a3 : Int32) (q : Mem × Int32) (h : F_X11_soil M a0 a1 a2 a3 = some q) : Kt yX11_soil P_X11_soil M [(a0, 13)] [.ref a0, .int a1, .int a2, .int a3] (RI G q) := Kt.of (by decide +kernel) rfl (Nat.le_of_ble_eq_true rfl) rfl (fun X hz => w_X11_soil M a0 a1 a2 a3 h)
set_option maxHeartbeats 4000000 in
theorem w_X11_sun_p42 {X : Option Cx} {G : EG} {res : Mem × Int32} : ∀ (M : Mem) (y0 : Int32), F_X11_sun_p42 M y0 = some res → T X (RI G res) P_X11_sun M [] [] [.int y0] 42 := by
  intro M y0 hF
  unfold F_X11_sun_p42 at hF
  exact r_iret (pc := 42) dX11_sun_42 hF
set_option maxHeartbeats 4000000 in
theorem w_X11_sun {X : Option Cx} {G : EG} {res : Mem × Int32} (M : Mem) (a0 : Nat) (a1 : Int32) (a2 : Int32) (hF : F_X11_sun M a0 a1 a2 = some res) : T X (RI G res) P_X11_sun M [(a0, 13)] [(0, .ref a0), (1, .int a1), (2, .int a2)] [] 0 := by
  unfold F_X11_sun at hF
  refine r_iload_n (pc := 0) 1 dX11_sun_0 rfl rfl ?_
  refine r_iconst (pc := 1) (w := 0) dX11_sun_1 (by decide) ?_
  refine r_bipush (pc := 2) (w := 23) dX11_sun_2 (by decide) ?_
  refine r_callS_I (pc := 4) (Py := P_X11_beyond) (n := 3) (As := [.int a1, .int ((0 : Int32)), .int ((23 : Int32))]) (fun q e => k_X11_beyond G _ a1 (0 : Int32) (23 : Int32) q e) tw_319 tw_320 tw_60 tw_321 hd_X11_beyond ⟨Nat.le_of_ble_eq_true rfl, Nat.le_of_ble_eq_true rfl⟩ rfl [] rfl rfl (Nat.le_of_ble_eq_true rfl) dX11_sun_4 hF (fun M1 r2 hF => ?_)
  refine r_iload_n (pc := 7) 2 dX11_sun_7 rfl rfl ?_
  refine r_iconst (pc := 8) (w := 0) dX11_sun_8 (by decide) ?_
  refine r_ldc (pc := 9) (w := 99999) tw_743 dX11_sun_9 ?_
  refine r_callS_I (pc := 11) (Py := P_X11_beyond) (n := 3) (As := [.int a2, .int ((0 : Int32)), .int ((99999 : Int32))]) (fun q e => k_X11_beyond G _ a2 (0 : Int32) (99999 : Int32) q e) tw_319 tw_320 tw_60 tw_321 hd_X11_beyond ⟨Nat.le_of_ble_eq_true rfl, Nat.le_of_ble_eq_true rfl⟩ rfl [] rfl rfl (Nat.le_of_ble_eq_true rfl) dX11_sun_11 hF (fun M3 r4 hF => ?_)
  refine r_callS_I (pc := 14) (Py := P_X11_firstOf) (n := 2) (As := [.int r2, .int r4]) (fun q e => k_X11_firstOf G _ r2 r4 q e) tw_700 tw_701 tw_60 tw_702 hd_X11_firstOf ⟨Nat.le_of_ble_eq_true rfl, Nat.le_of_ble_eq_true rfl⟩ rfl [] rfl rfl (Nat.le_of_ble_eq_true rfl) dX11_sun_14 hF (fun M5 r6 hF => ?_)
  refine r_istore_n (pc := 17) (L1 := [(3, .int r6), (0, .ref a0), (1, .int a1), (2, .int a2)]) dX11_sun_17 rfl (by decide) rfl ?_
  refine r_iload_n (pc := 18) 0 dX11_sun_18 rfl rfl ?_
  refine r_if_eq (pc := 19) (tgt := 30) dX11_sun_19 rfl hF (fun hF => ?_) (fun hF => ?_)
  · refine r_aload_n (pc := 30) 1 dX11_sun_30 rfl rfl ?_
    refine gf_X11_10 (pc := 31) (j := 0) rfl dX11_sun_31 ?_
    refine r_lr (by decide) hF (fun b7 hF => ?_)
    refine gf_X11_190 (pc := 34) (j := 0) rfl dX11_sun_34 ?_
    refine r_lr (by decide) hF (fun b8 hF => ?_)
    refine r_iload_n (pc := 37) 2 dX11_sun_37 rfl rfl ?_
    refine r_iload_n (pc := 38) 3 dX11_sun_38 rfl rfl ?_
    refine r_callS_I (pc := 39) (Py := P_X11_replace) (n := 3) (As := [.ref b8, .int a1, .int a2]) (fun q e => k_X11_replace G _ b8 a1 a2 q e) tw_704 tw_705 tw_60 tw_706 hd_X11_replace ⟨Nat.le_of_ble_eq_true rfl, Nat.le_of_ble_eq_true rfl⟩ rfl [0] rfl rfl (Nat.le_of_ble_eq_true rfl) dX11_sun_39 hF (fun M9 r10 hF => ?_)
    exact T.sub ((w_X11_sun_p42) M9 r10 hF) [] [] rfl rfl
  · refine r_aload_n (pc := 22) 1 dX11_sun_22 rfl rfl ?_
    refine r_iload_n (pc := 23) 0 dX11_sun_23 rfl rfl ?_
    refine r_callV_I (pc := 24) (Py := P_X11_refuse) (n := 1) (As := [.int r6]) (fun q e => k_X11_refuse G _ a0 r6 q e) (c := 12) (Tb := TX11) (N := 11) rfl (by decide) (j0 := 0) rfl tw_322 tw_324 tw_0 tw_60 tw_325 hd_X11_refuse ⟨Nat.le_of_ble_eq_true rfl, Nat.le_of_ble_eq_true rfl⟩ rfl [0] rfl rfl (Nat.le_of_ble_eq_true rfl) dX11_sun_24 hF (fun M11 r12 hF => ?_)
    refine r_goto (pc := 27) (tgt := 42) dX11_sun_27 rfl ?_
    exact T.sub ((w_X11_sun_p42) M11 r12 hF) [] [] rfl rfl
theorem k_X11_sun (G : EG) (M : Mem) (a0 : Nat) (a1 : Int32) (a2 : Int32) (q : Mem × Int32) (h : F_X11_sun M a0 a1 a2 = some q) : Kt yX11_sun P_X11_sun M [(a0, 13)] [.ref a0, .int a1, .int a2] (RI G q) := Kt.of (by decide +kernel) rfl (Nat.le_of_ble_eq_true rfl) rfl (fun X hz => w_X11_sun M a0 a1 a2 h)
set_option maxHeartbeats 4000000 in
theorem w_X11_takenFrom_p27 {X : Option Cx} {G : EG} {res : Mem × Int64} : ∀ (M : Mem) (x0 : Nat), F_X11_takenFrom_p27 M x0 = some res → T X (RJ G res) P_X11_takenFrom M [(x0, 13)] [(0, .ref x0)] [] 27 := by
  intro M x0 hF
  unfold F_X11_takenFrom_p27 at hF
  refine r_aload_n (pc := 27) 0 dX11_takenFrom_27 rfl rfl ?_
  refine r_iconst (pc := 28) (w := -1) dX11_takenFrom_28 (by decide) ?_
  refine r_callV_J (pc := 29) (Py := P_X11_refuseLong) (n := 1) (As := [.int ((-1 : Int32))]) (fun q e => k_X11_refuseLong G _ x0 (-1 : Int32) q e) (c := 12) (Tb := TX11) (N := 11) rfl (by decide) (j0 := 0) rfl tw_646 tw_648 tw_10 tw_60 tw_649 hd_X11_refuseLong ⟨Nat.le_of_ble_eq_true rfl, Nat.le_of_ble_eq_true rfl⟩ rfl [0] rfl rfl (Nat.le_of_ble_eq_true rfl) dX11_takenFrom_29 hF (fun M1 r2 hF => ?_)
  exact r_lret (pc := 32) dX11_takenFrom_32 hF
set_option maxHeartbeats 4000000 in
theorem w_X11_takenFrom {X : Option Cx} {G : EG} {res : Mem × Int64} (M : Mem) (a0 : Nat) (a1 : Int32) (a2 : Int32) (a3 : Int32) (hF : F_X11_takenFrom M a0 a1 a2 a3 = some res) : T X (RJ G res) P_X11_takenFrom M [(a0, 13)] [(0, .ref a0), (1, .int a1), (2, .int a2), (3, .int a3)] [] 0 := by
  unfold F_X11_takenFrom at hF
  refine r_aload_n (pc := 0) 0 dX11_takenFrom_0 rfl rfl ?_
  refine gf_X11_49 (pc := 1) (j := 0) rfl dX11_takenFrom_1 ?_
  refine r_lr (by decide) hF (fun b1 hF => ?_)
  refine r_iload_n (pc := 4) 1 dX11_takenFrom_4 rfl rfl ?_
  refine r_callV_R (pc := 5) (Py := P_X1_find) (n := 1) (As := [.int a1]) (fun q e => k_X1_find G _ b1 a1 q e) (c := 2) (Tb := TX1) (N := 7) rfl (by decide) (j0 := 0) rfl tw_624 tw_625 tw_626 tw_69 tw_627 hd_X1_find ⟨Nat.le_of_ble_eq_true rfl, Nat.le_of_ble_eq_true rfl⟩ rfl [0] rfl rfl (Nat.le_of_ble_eq_true rfl) dX11_takenFrom_5 hF (fun M2 r3 hF => ?_)
  refine r_ifnull (pc := 8) (tgt := 27) dX11_takenFrom_8 rfl hF (fun e9 h0 => ?_) (fun b4 e9 h0 => ?_)
  · clear hF
    subst e9
    have hF := h0
    clear h0
    exact T.sub ((w_X11_takenFrom_p27) M2 a0 hF) [1] [0] rfl rfl
  · clear hF
    subst e9
    have hF := h0
    clear h0
    refine r_aload_n (pc := 11) 0 dX11_takenFrom_11 rfl rfl ?_
    refine gf_X11_49 (pc := 12) (j := 1) rfl dX11_takenFrom_12 ?_
    refine r_lr (by decide) hF (fun b5 hF => ?_)
    refine r_iload_n (pc := 15) 2 dX11_takenFrom_15 rfl rfl ?_
    refine r_callV_R (pc := 16) (Py := P_X1_find) (n := 1) (As := [.int a2]) (fun q e => k_X1_find G _ b5 a2 q e) (c := 2) (Tb := TX1) (N := 7) rfl (by decide) (j0 := 0) rfl tw_624 tw_625 tw_626 tw_69 tw_627 hd_X1_find ⟨Nat.le_of_ble_eq_true rfl, Nat.le_of_ble_eq_true rfl⟩ rfl [0] rfl rfl (Nat.le_of_ble_eq_true rfl) dX11_takenFrom_16 hF (fun M6 r7 hF => ?_)
    refine r_ifnull (pc := 19) (tgt := 27) dX11_takenFrom_19 rfl hF (fun e9 h0 => ?_) (fun b8 e9 h0 => ?_)
    · clear hF
      subst e9
      have hF := h0
      clear h0
      exact T.sub ((w_X11_takenFrom_p27) M6 a0 hF) [2] [0] rfl rfl
    · clear hF
      subst e9
      have hF := h0
      clear h0
      refine r_iload_n (pc := 22) 1 dX11_takenFrom_22 rfl rfl ?_
      refine r_iload_n (pc := 23) 2 dX11_takenFrom_23 rfl rfl ?_
      refine r_icmp_ne (pc := 24) (tgt := 33) dX11_takenFrom_24 rfl hF (fun hF => ?_) (fun hF => ?_)
      · refine r_iload_n (pc := 33) 3 dX11_takenFrom_33 rfl rfl ?_
        refine r_iconst (pc := 34) (w := 1) dX11_takenFrom_34 (by decide) ?_
        refine r_sipush (pc := 35) (w := 500) dX11_takenFrom_35 (by decide) ?_
        refine r_callS_I (pc := 38) (Py := P_X11_beyond) (n := 3) (As := [.int a3, .int ((1 : Int32)), .int ((500 : Int32))]) (fun q e => k_X11_beyond G _ a3 (1 : Int32) (500 : Int32) q e) tw_319 tw_320 tw_60 tw_321 hd_X11_beyond ⟨Nat.le_of_ble_eq_true rfl, Nat.le_of_ble_eq_true rfl⟩ rfl [] rfl rfl (Nat.le_of_ble_eq_true rfl) dX11_takenFrom_38 hF (fun M9 r10 hF => ?_)
        refine r_istore (pc := 41) (L1 := [(4, .int r10), (0, .ref a0), (1, .int a1), (2, .int a2), (3, .int a3)]) dX11_takenFrom_41 (by decide) rfl ?_
        refine r_iload (pc := 43) 0 dX11_takenFrom_43 rfl ?_
        refine r_if_eq (pc := 45) (tgt := 55) dX11_takenFrom_45 rfl hF (fun hF => ?_) (fun hF => ?_)
        · refine r_aload_n (pc := 55) 1 dX11_takenFrom_55 rfl rfl ?_
          refine r_iload_n (pc := 56) 2 dX11_takenFrom_56 rfl rfl ?_
          refine r_iconst (pc := 57) (w := 0) dX11_takenFrom_57 (by decide) ?_
          refine r_iload_n (pc := 58) 4 dX11_takenFrom_58 rfl rfl ?_
          refine r_callV_J (pc := 59) (Py := P_X11_givenInMind) (n := 3) (As := [.int a1, .int ((0 : Int32)), .int a3]) (fun q e => k_X11_givenInMind G _ a0 a1 (0 : Int32) a3 q e) (c := 12) (Tb := TX11) (N := 11) rfl (by decide) (j0 := 2) rfl tw_999 tw_1001 tw_24 tw_60 tw_1002 hd_X11_givenInMind ⟨Nat.le_of_ble_eq_true rfl, Nat.le_of_ble_eq_true rfl⟩ rfl [2] rfl rfl (Nat.le_of_ble_eq_true rfl) dX11_takenFrom_59 hF (fun M11 r12 hF => ?_)
          refine r_lstore (pc := 62) (L1 := [(5, .long r12), (4, .int r10), (0, .ref a0), (1, .int a1), (2, .int a2), (3, .int a3)]) dX11_takenFrom_62 (by decide) rfl ?_
          refine r_aload_n (pc := 64) 2 dX11_takenFrom_64 rfl rfl ?_
          refine r_iload_n (pc := 65) 3 dX11_takenFrom_65 rfl rfl ?_
          refine r_iconst (pc := 66) (w := 1) dX11_takenFrom_66 (by decide) ?_
          refine r_iload_n (pc := 67) 4 dX11_takenFrom_67 rfl rfl ?_
          refine r_ishl (pc := 68) dX11_takenFrom_68 ?_
          refine r_iload_n (pc := 69) 5 dX11_takenFrom_69 rfl rfl ?_
          refine r_callV_J (pc := 70) (Py := P_X11_givenInMind) (n := 3) (As := [.int a1, .int ((1 : Int32) <<< (a2 &&& 31)), .int a3]) (fun q e => k_X11_givenInMind G _ a0 a1 ((1 : Int32) <<< (a2 &&& 31)) a3 q e) (c := 12) (Tb := TX11) (N := 11) rfl (by decide) (j0 := 2) rfl tw_999 tw_1001 tw_24 tw_60 tw_1002 hd_X11_givenInMind ⟨Nat.le_of_ble_eq_true rfl, Nat.le_of_ble_eq_true rfl⟩ rfl [2] rfl rfl (Nat.le_of_ble_eq_true rfl) dX11_takenFrom_70 hF (fun M13 r14 hF => ?_)
          refine r_lload (pc := 73) 0 dX11_takenFrom_73 rfl ?_
          refine r_lsub (pc := 75) dX11_takenFrom_75 ?_
          exact r_lret (pc := 76) dX11_takenFrom_76 hF
        · refine r_aload_n (pc := 48) 1 dX11_takenFrom_48 rfl rfl ?_
          refine r_iload (pc := 49) 0 dX11_takenFrom_49 rfl ?_
          refine r_callV_J (pc := 51) (Py := P_X11_refuseLong) (n := 1) (As := [.int r10]) (fun q e => k_X11_refuseLong G _ a0 r10 q e) (c := 12) (Tb := TX11) (N := 11) rfl (by decide) (j0 := 2) rfl tw_646 tw_648 tw_10 tw_60 tw_649 hd_X11_refuseLong ⟨Nat.le_of_ble_eq_true rfl, Nat.le_of_ble_eq_true rfl⟩ rfl [2] rfl rfl (Nat.le_of_ble_eq_true rfl) dX11_takenFrom_51 hF (fun M15 r16 hF => ?_)
          exact r_lret (pc := 54) dX11_takenFrom_54 hF
      · exact T.sub ((w_X11_takenFrom_p27) M6 a0 hF) [2] [0] rfl rfl
theorem k_X11_takenFrom (G : EG) (M : Mem) (a0 : Nat) (a1 : Int32) (a2 : Int32) (a3 : Int32) (q : Mem × Int64) (h : F_X11_takenFrom M a0 a1 a2 a3 = some q) : Kt yX11_takenFrom P_X11_takenFrom M [(a0, 13)] [.ref a0, .int a1, .int a2, .int a3] (RJ G q) := Kt.of (by decide +kernel) rfl (Nat.le_of_ble_eq_true rfl) rfl (fun X hz => w_X11_takenFrom M a0 a1 a2 a3 h)
set_option maxHeartbeats 4000000 in
theorem w_X11_tank_p9 {X : Option Cx} {G : EG} {res : Mem × Int32} : ∀ (M : Mem) (x0 : Nat), F_X11_tank_p9 M x0 = some res → T X (RI G res) P_X11_tank M [(x0, 13)] [(0, .ref x0)] [] 9 := by
  intro M x0 hF
  unfold F_X11_tank_p9 at hF
  refine r_aload_n (pc := 9) 0 dX11_tank_9 rfl rfl ?_
  refine r_bipush (pc := 10) (w := -4) dX11_tank_10 (by decide) ?_
  refine r_callV_I (pc := 12) (Py := P_X11_refuse) (n := 1) (As := [.int ((-4 : Int32))]) (fun q e => k_X11_refuse G _ x0 (-4 : Int32) q e) (c := 12) (Tb := TX11) (N := 11) rfl (by decide) (j0 := 0) rfl tw_322 tw_324 tw_0 tw_60 tw_325 hd_X11_refuse ⟨Nat.le_of_ble_eq_true rfl, Nat.le_of_ble_eq_true rfl⟩ rfl [0] rfl rfl (Nat.le_of_ble_eq_true rfl) dX11_tank_12 hF (fun M1 r2 hF => ?_)
  exact r_iret (pc := 15) dX11_tank_15 hF
set_option maxHeartbeats 4000000 in
theorem w_X11_tank_p29 {X : Option Cx} {G : EG} {res : Mem × Int32} : ∀ (M : Mem) (x0 : Nat), F_X11_tank_p29 M x0 = some res → T X (RI G res) P_X11_tank M [(x0, 13)] [(0, .ref x0)] [] 29 := by
  intro M x0 hF
  unfold F_X11_tank_p29 at hF
  refine r_aload_n (pc := 29) 0 dX11_tank_29 rfl rfl ?_
  refine r_bipush (pc := 30) (w := -6) dX11_tank_30 (by decide) ?_
  refine r_callV_I (pc := 32) (Py := P_X11_refuse) (n := 1) (As := [.int ((-6 : Int32))]) (fun q e => k_X11_refuse G _ x0 (-6 : Int32) q e) (c := 12) (Tb := TX11) (N := 11) rfl (by decide) (j0 := 0) rfl tw_322 tw_324 tw_0 tw_60 tw_325 hd_X11_refuse ⟨Nat.le_of_ble_eq_true rfl, Nat.le_of_ble_eq_true rfl⟩ rfl [0] rfl rfl (Nat.le_of_ble_eq_true rfl) dX11_tank_32 hF (fun M1 r2 hF => ?_)
  exact r_iret (pc := 35) dX11_tank_35 hF
set_option maxHeartbeats 4000000 in
theorem w_X11_tank {X : Option Cx} {G : EG} {res : Mem × Int32} (M : Mem) (a0 : Nat) (a1 : Int32) (a2 : Int32) (hF : F_X11_tank M a0 a1 a2 = some res) : T X (RI G res) P_X11_tank M [(a0, 13)] [(0, .ref a0), (1, .int a1), (2, .int a2)] [] 0 := by
  unfold F_X11_tank at hF
  refine r_iload_n (pc := 0) 1 dX11_tank_0 rfl rfl ?_
  refine r_if_lt (pc := 1) (tgt := 9) dX11_tank_1 rfl hF (fun hF => ?_) (fun hF => ?_)
  · exact T.sub ((w_X11_tank_p9) M a0 hF) [0] [0] rfl rfl
  · refine r_iload_n (pc := 4) 2 dX11_tank_4 rfl rfl ?_
    refine r_iconst (pc := 5) (w := 1) dX11_tank_5 (by decide) ?_
    refine r_icmp_ge (pc := 6) (tgt := 16) dX11_tank_6 rfl hF (fun hF => ?_) (fun hF => ?_)
    · refine r_iload_n (pc := 16) 1 dX11_tank_16 rfl rfl ?_
      refine r_bipush (pc := 17) (w := 9) dX11_tank_17 (by decide) ?_
      refine r_icmp_gt (pc := 19) (tgt := 29) dX11_tank_19 rfl hF (fun hF => ?_) (fun hF => ?_)
      · exact T.sub ((w_X11_tank_p29) M a0 hF) [0] [0] rfl rfl
      · refine r_iload_n (pc := 22) 2 dX11_tank_22 rfl rfl ?_
        refine r_sipush (pc := 23) (w := 9999) dX11_tank_23 (by decide) ?_
        refine r_icmp_le (pc := 26) (tgt := 36) dX11_tank_26 rfl hF (fun hF => ?_) (fun hF => ?_)
        · refine r_aload_n (pc := 36) 0 dX11_tank_36 rfl rfl ?_
          refine gf_X11_40 (pc := 37) (j := 0) rfl dX11_tank_37 ?_
          refine r_lr (by decide) hF (fun b1 hF => ?_)
          refine gf_X11_274 (pc := 40) (j := 0) rfl dX11_tank_40 ?_
          refine r_gI (pc := 43) hF (fun v2 hF => ?_)
          refine r_istore_n (pc := 43) (L1 := [(3, .int v2), (0, .ref a0), (1, .int a1), (2, .int a2)]) dX11_tank_43 rfl (by decide) rfl ?_
          refine r_aload_n (pc := 44) 1 dX11_tank_44 rfl rfl ?_
          refine gf_X11_40 (pc := 45) (j := 1) rfl dX11_tank_45 ?_
          refine r_lr (by decide) hF (fun b3 hF => ?_)
          refine r_iload_n (pc := 48) 2 dX11_tank_48 rfl rfl ?_
          refine pf_X11_274 (pc := 49) (j := 0) rfl dX11_tank_49 hF (fun M4 hF => ?_)
          refine r_aload_n (pc := 52) 1 dX11_tank_52 rfl rfl ?_
          refine gf_X11_40 (pc := 53) (j := 2) rfl dX11_tank_53 ?_
          refine r_lr (by decide) hF (fun b5 hF => ?_)
          refine r_iload_n (pc := 56) 3 dX11_tank_56 rfl rfl ?_
          refine pf_X11_277 (pc := 57) (j := 0) rfl dX11_tank_57 hF (fun M6 hF => ?_)
          refine r_iload_n (pc := 60) 0 dX11_tank_60 rfl rfl ?_
          exact r_iret (pc := 61) dX11_tank_61 hF
        · exact T.sub ((w_X11_tank_p29) M a0 hF) [0] [0] rfl rfl
    · exact T.sub ((w_X11_tank_p9) M a0 hF) [0] [0] rfl rfl
theorem k_X11_tank (G : EG) (M : Mem) (a0 : Nat) (a1 : Int32) (a2 : Int32) (q : Mem × Int32) (h : F_X11_tank M a0 a1 a2 = some q) : Kt yX11_tank P_X11_tank M [(a0, 13)] [.ref a0, .int a1, .int a2] (RI G q) := Kt.of (by decide +kernel) rfl (Nat.le_of_ble_eq_true rfl) rfl (fun X hz => w_X11_tank M a0 a1 a2 h)
set_option maxHeartbeats 4000000 in
theorem w_X1_heatInAll_p77 {X : Option Cx} {G : EG} {res : Mem × Int64} {k37 : Mem → Nat → Int32 → Int64 → Int32 → Nat → Int32 → Option (Mem × Int64)} (hk37 : ∀ (M : Mem) (x0 : Nat) (x1 : Int32) (x2 : Int64) (x4 : Int32) (x5 : Nat) (x6 : Int32), k37 M x0 x1 x2 x4 x5 x6 = some res → T X (RJ G res) P_X1_heatInAll M [(x0, 3), (x5, 1)] [(0, .ref x0), (1, .int x1), (2, .long x2), (4, .int x4), (5, .ref x5), (6, .int x6)] [] 37) : ∀ (M : Mem) (x0 : Nat) (x1 : Int32) (x4 : Int32) (x5 : Nat) (x6 : Int32) (y0 : Int64) (y1 : Int64), F_X1_heatInAll_p77 k37 M x0 x1 x4 x5 x6 y0 y1 = some res → T X (RJ G res) P_X1_heatInAll M [(x0, 3), (x5, 1)] [(0, .ref x0), (1, .int x1), (4, .int x4), (5, .ref x5), (6, .int x6)] [.long y1, .long y0] 77 := by
  intro M x0 x1 x4 x5 x6 y0 y1 hF
  unfold F_X1_heatInAll_p77 at hF
  refine r_ladd (pc := 77) dX1_heatInAll_77 ?_
  refine r_gJ (pc := 78) hF (fun v1 hF => ?_)
  refine r_lstore_n (pc := 78) (L1 := [(2, .long v1), (0, .ref x0), (1, .int x1), (4, .int x4), (5, .ref x5), (6, .int x6)]) dX1_heatInAll_78 rfl (by decide) rfl ?_
  obtain ⟨v2, e9, hF⟩ := bnd_e hF
  refine r_iinc (pc := 79) (w := v2) (k := 5) (L1 := [(6, .int v2), (2, .long v1), (0, .ref x0), (1, .int x1), (4, .int x4), (5, .ref x5)]) dX1_heatInAll_79 rfl (by rw [e9]; rfl) (by decide) rfl ?_
  clear e9
  refine r_goto (pc := 82) (tgt := 37) dX1_heatInAll_82 rfl ?_
  exact T.sub (hk37 M x0 x1 v1 x4 x5 v2 hF) [0, 1] [2, 3, 1, 4, 5, 0] rfl rfl
set_option maxHeartbeats 4000000 in
theorem w_X1_heatInAll_p37 {X : Option Cx} {G : EG} {res : Mem × Int64} {k85 : Mem → Nat → Int32 → Int64 → Int32 → Option (Mem × Int64)} (hk85 : ∀ (M : Mem) (x0 : Nat) (x1 : Int32) (x2 : Int64) (x4 : Int32), k85 M x0 x1 x2 x4 = some res → T X (RJ G res) P_X1_heatInAll M [(x0, 3)] [(0, .ref x0), (1, .int x1), (2, .long x2), (4, .int x4)] [] 85) : ∀ (n : Nat) (M : Mem) (x0 : Nat) (x1 : Int32) (x2 : Int64) (x4 : Int32) (x5 : Nat) (x6 : Int32), F_X1_heatInAll_p37 k85 n M x0 x1 x2 x4 x5 x6 = some res → T X (RJ G res) P_X1_heatInAll M [(x0, 3), (x5, 1)] [(0, .ref x0), (1, .int x1), (2, .long x2), (4, .int x4), (5, .ref x5), (6, .int x6)] [] 37 := by
  intro n
  induction n with
  | zero =>
    intro M x0 x1 x2 x4 x5 x6 hF
    cases hF
  | succ n ih =>
    intro M x0 x1 x2 x4 x5 x6 hF
    unfold F_X1_heatInAll_p37 at hF
    refine r_iload (pc := 37) 5 dX1_heatInAll_37 rfl ?_
    refine r_aload (pc := 39) 4 dX1_heatInAll_39 rfl ?_
    refine r_callV_I (pc := 41) (Py := P_Jx4a65c_size_8abf5) (n := 0) (As := []) (fun q e => k_Jx4a65c_size_8abf5 G _ x5 q e) (c := 0) (Tb := TJx4a65c) (N := 3) rfl (by decide) (j0 := 1) rfl tw_375 tw_344 tw_345 tw_64 tw_346 hd_Jx4a65c_size_8abf5 ⟨Nat.le_of_ble_eq_true rfl, Nat.le_of_ble_eq_true rfl⟩ rfl [1] rfl rfl (Nat.le_of_ble_eq_true rfl) dX1_heatInAll_41 hF (fun M1 r2 hF => ?_)
    refine r_icmp_ge (pc := 44) (tgt := 85) dX1_heatInAll_44 rfl hF (fun hF => ?_) (fun hF => ?_)
    · exact T.sub (hk85 M1 x0 x1 x2 x4 hF) [0] [0, 1, 2, 3] rfl rfl
    · refine r_aload (pc := 47) 4 dX1_heatInAll_47 rfl ?_
      refine r_iload (pc := 49) 5 dX1_heatInAll_49 rfl ?_
      refine r_callV_R (pc := 51) (Py := P_Jx4a65c_get_915e3) (n := 1) (As := [.int x6]) (fun q e => k_Jx4a65c_get_915e3 G _ x5 x6 q e) (c := 0) (Tb := TJx4a65c) (N := 3) rfl (by decide) (j0 := 1) rfl tw_376 tw_348 tw_349 tw_64 tw_350 hd_Jx4a65c_get_915e3 ⟨Nat.le_of_ble_eq_true rfl, Nat.le_of_ble_eq_true rfl⟩ rfl [1] rfl rfl (Nat.le_of_ble_eq_true rfl) dX1_heatInAll_51 hF (fun M3 r4 hF => ?_)
      refine r_lr (by decide) hF (fun b5 hF => ?_)
      refine r_cast (pc := 54) (c := 5) (Tb := TX4) (N := 5) rfl (by decide) (j := 0) rfl tw_939 dX1_heatInAll_54 ?_
      refine r_astore (pc := 57) (L1 := [(7, .ref b5), (0, .ref x0), (1, .int x1), (2, .long x2), (4, .int x4), (5, .ref x5), (6, .int x6)]) dX1_heatInAll_57 (by decide) rfl ?_
      refine r_lload_n (pc := 59) 3 dX1_heatInAll_59 rfl rfl ?_
      refine r_iload_n (pc := 60) 2 dX1_heatInAll_60 rfl rfl ?_
      refine r_if_eq (pc := 61) (tgt := 72) dX1_heatInAll_61 rfl hF (fun hF => ?_) (fun hF => ?_)
      · refine r_aload (pc := 72) 0 dX1_heatInAll_72 rfl ?_
        refine gf_X1_117 (pc := 74) (j := 0) rfl dX1_heatInAll_74 ?_
        exact T.sub ((w_X1_heatInAll_p77 ih) M3 x0 x1 x4 x5 x6 x2 (gJ M3 502 b5) hF) [1, 2] [1, 2, 4, 5, 6] rfl rfl
      · refine r_aload (pc := 64) 0 dX1_heatInAll_64 rfl ?_
        refine gf_X1_161 (pc := 66) (j := 0) rfl dX1_heatInAll_66 ?_
        refine r_goto (pc := 69) (tgt := 77) dX1_heatInAll_69 rfl ?_
        exact T.sub ((w_X1_heatInAll_p77 ih) M3 x0 x1 x4 x5 x6 x2 (gJ M3 501 b5) hF) [1, 2] [1, 2, 4, 5, 6] rfl rfl
set_option maxHeartbeats 4000000 in
theorem w_X1_heatInAll_p85 {X : Option Cx} {G : EG} {res : Mem × Int64} {k5 : Mem → Nat → Int32 → Int64 → Int32 → Option (Mem × Int64)} (hk5 : ∀ (M : Mem) (x0 : Nat) (x1 : Int32) (x2 : Int64) (x4 : Int32), k5 M x0 x1 x2 x4 = some res → T X (RJ G res) P_X1_heatInAll M [(x0, 3)] [(0, .ref x0), (1, .int x1), (2, .long x2), (4, .int x4)] [] 5) : ∀ (M : Mem) (x0 : Nat) (x1 : Int32) (x2 : Int64) (x4 : Int32), F_X1_heatInAll_p85 k5 M x0 x1 x2 x4 = some res → T X (RJ G res) P_X1_heatInAll M [(x0, 3)] [(0, .ref x0), (1, .int x1), (2, .long x2), (4, .int x4)] [] 85 := by
  intro M x0 x1 x2 x4 hF
  unfold F_X1_heatInAll_p85 at hF
  obtain ⟨v1, e9, hF⟩ := bnd_e hF
  refine r_iinc (pc := 85) (w := v1) (k := 3) (L1 := [(4, .int v1), (0, .ref x0), (1, .int x1), (2, .long x2)]) dX1_heatInAll_85 rfl (by rw [e9]; rfl) (by decide) rfl ?_
  clear e9
  refine r_goto (pc := 88) (tgt := 5) dX1_heatInAll_88 rfl ?_
  exact T.sub (hk5 M x0 x1 x2 v1 hF) [0] [1, 2, 3, 0] rfl rfl
set_option maxHeartbeats 4000000 in
theorem w_X1_heatInAll_p5 {X : Option Cx} {G : EG} {res : Mem × Int64} {k91 : Mem → Int64 → Option (Mem × Int64)} (hk91 : ∀ (M : Mem) (x2 : Int64), k91 M x2 = some res → T X (RJ G res) P_X1_heatInAll M [] [(2, .long x2)] [] 91) : ∀ (n : Nat) (M : Mem) (x0 : Nat) (x1 : Int32) (x2 : Int64) (x4 : Int32), F_X1_heatInAll_p5 k91 n M x0 x1 x2 x4 = some res → T X (RJ G res) P_X1_heatInAll M [(x0, 3)] [(0, .ref x0), (1, .int x1), (2, .long x2), (4, .int x4)] [] 5 := by
  intro n
  induction n with
  | zero =>
    intro M x0 x1 x2 x4 hF
    cases hF
  | succ n ih =>
    intro M x0 x1 x2 x4 hF
    unfold F_X1_heatInAll_p5 at hF
    refine r_iload (pc := 5) 3 dX1_heatInAll_5 rfl ?_
    refine r_aload_n (pc := 7) 0 dX1_heatInAll_7 rfl rfl ?_
    refine gf_X1_12 (pc := 8) (j := 0) rfl dX1_heatInAll_8 ?_
    refine r_lr (by decide) hF (fun b1 hF => ?_)
    refine r_callV_I (pc := 11) (Py := P_Jx4a65c_size_8abf5) (n := 0) (As := []) (fun q e => k_Jx4a65c_size_8abf5 G _ b1 q e) (c := 0) (Tb := TJx4a65c) (N := 3) rfl (by decide) (j0 := 0) rfl tw_375 tw_344 tw_345 tw_64 tw_346 hd_Jx4a65c_size_8abf5 ⟨Nat.le_of_ble_eq_true rfl, Nat.le_of_ble_eq_true rfl⟩ rfl [0] rfl rfl (Nat.le_of_ble_eq_true rfl) dX1_heatInAll_11 hF (fun M2 r3 hF => ?_)
    refine r_icmp_ge (pc := 14) (tgt := 91) dX1_heatInAll_14 rfl hF (fun hF => ?_) (fun hF => ?_)
    · exact T.sub (hk91 M2 x2 hF) [] [2] rfl rfl
    · refine r_aload_n (pc := 17) 0 dX1_heatInAll_17 rfl rfl ?_
      refine gf_X1_12 (pc := 18) (j := 1) rfl dX1_heatInAll_18 ?_
      refine r_lr (by decide) hF (fun b4 hF => ?_)
      refine r_iload (pc := 21) 3 dX1_heatInAll_21 rfl ?_
      refine r_callV_R (pc := 23) (Py := P_Jx4a65c_get_915e3) (n := 1) (As := [.int x4]) (fun q e => k_Jx4a65c_get_915e3 G _ b4 x4 q e) (c := 0) (Tb := TJx4a65c) (N := 3) rfl (by decide) (j0 := 0) rfl tw_376 tw_348 tw_349 tw_64 tw_350 hd_Jx4a65c_get_915e3 ⟨Nat.le_of_ble_eq_true rfl, Nat.le_of_ble_eq_true rfl⟩ rfl [0] rfl rfl (Nat.le_of_ble_eq_true rfl) dX1_heatInAll_23 hF (fun M5 r6 hF => ?_)
      refine r_lr (by decide) hF (fun b7 hF => ?_)
      refine r_cast (pc := 26) (c := 1) (Tb := TX0) (N := 11) rfl (by decide) (j := 0) rfl tw_377 dX1_heatInAll_26 ?_
      refine gf_X1_158 (pc := 29) (j := 0) rfl dX1_heatInAll_29 ?_
      refine r_lr (by decide) hF (fun b8 hF => ?_)
      refine r_astore (pc := 32) (L1 := [(5, .ref b8), (0, .ref x0), (1, .int x1), (2, .long x2), (4, .int x4)]) dX1_heatInAll_32 (by decide) rfl ?_
      refine r_iconst (pc := 34) (w := 0) dX1_heatInAll_34 (by decide) ?_
      refine r_istore (pc := 35) (L1 := [(6, .int ((0 : Int32))), (5, .ref b8), (0, .ref x0), (1, .int x1), (2, .long x2), (4, .int x4)]) dX1_heatInAll_35 (by decide) rfl ?_
      exact T.sub ((w_X1_heatInAll_p37 (w_X1_heatInAll_p85 ih) FU) M5 x0 x1 x2 x4 b8 (0 : Int32) hF) [4, 0] [2, 3, 4, 5, 1, 0] rfl rfl
set_option maxHeartbeats 4000000 in
theorem w_X1_heatInAll_p91 {X : Option Cx} {G : EG} {res : Mem × Int64} : ∀ (M : Mem) (x2 : Int64), F_X1_heatInAll_p91 M x2 = some res → T X (RJ G res) P_X1_heatInAll M [] [(2, .long x2)] [] 91 := by
  intro M x2 hF
  unfold F_X1_heatInAll_p91 at hF
  refine r_lload_n (pc := 91) 0 dX1_heatInAll_91 rfl rfl ?_
  exact r_lret (pc := 92) dX1_heatInAll_92 hF
set_option maxHeartbeats 4000000 in
theorem w_X1_heatInAll {X : Option Cx} {G : EG} {res : Mem × Int64} (M : Mem) (a0 : Nat) (a1 : Int32) (hF : F_X1_heatInAll M a0 a1 = some res) : T X (RJ G res) P_X1_heatInAll M [(a0, 3)] [(0, .ref a0), (1, .int a1)] [] 0 := by
  unfold F_X1_heatInAll at hF
  refine r_lconst (pc := 0) (w := 0) dX1_heatInAll_0 (by decide) ?_
  refine r_lstore_n (pc := 1) (L1 := [(2, .long ((0 : Int64))), (0, .ref a0), (1, .int a1)]) dX1_heatInAll_1 rfl (by decide) rfl ?_
  refine r_iconst (pc := 2) (w := 0) dX1_heatInAll_2 (by decide) ?_
  refine r_istore (pc := 3) (L1 := [(4, .int ((0 : Int32))), (2, .long ((0 : Int64))), (0, .ref a0), (1, .int a1)]) dX1_heatInAll_3 (by decide) rfl ?_
  exact T.sub ((w_X1_heatInAll_p5 (w_X1_heatInAll_p91) FU) M a0 a1 (0 : Int64) (0 : Int32) hF) [0] [2, 3, 1, 0] rfl rfl
theorem k_X1_heatInAll (G : EG) (M : Mem) (a0 : Nat) (a1 : Int32) (q : Mem × Int64) (h : F_X1_heatInAll M a0 a1 = some q) : Kt yX1_heatInAll P_X1_heatInAll M [(a0, 3)] [.ref a0, .int a1] (RJ G q) := Kt.of (by decide +kernel) rfl (Nat.le_of_ble_eq_true rfl) rfl (fun X hz => w_X1_heatInAll M a0 a1 h)
set_option maxHeartbeats 4000000 in
theorem w_X11_told_p53 {X : Option Cx} {G : EG} {res : Mem × Int64} : ∀ (M : Mem) (y0 : Nat) (y1 : Int32), F_X11_told_p53 M y0 y1 = some res → T X (RJ G res) P_X11_told M [(y0, 3)] [] [.int y1, .ref y0] 53 := by
  intro M y0 y1 hF
  unfold F_X11_told_p53 at hF
  refine r_callV_J (pc := 53) (Py := P_X1_heatInAll) (n := 1) (As := [.int y1]) (fun q e => k_X1_heatInAll G _ y0 y1 q e) (c := 2) (Tb := TX1) (N := 7) rfl (by decide) (j0 := 0) rfl tw_935 tw_936 tw_937 tw_69 tw_938 hd_X1_heatInAll ⟨Nat.le_of_ble_eq_true rfl, Nat.le_of_ble_eq_true rfl⟩ rfl [0] rfl rfl (Nat.le_of_ble_eq_true rfl) dX11_told_53 hF (fun M1 r2 hF => ?_)
  exact r_lret (pc := 56) dX11_told_56 hF
set_option maxHeartbeats 4000000 in
theorem w_X11_told_p38 {X : Option Cx} {G : EG} {res : Mem × Int64} : ∀ (M : Mem) (x0 : Nat) (x1 : Int32), F_X11_told_p38 M x0 x1 = some res → T X (RJ G res) P_X11_told M [(x0, 13)] [(0, .ref x0), (1, .int x1)] [] 38 := by
  intro M x0 x1 hF
  unfold F_X11_told_p38 at hF
  refine r_aload_n (pc := 38) 0 dX11_told_38 rfl rfl ?_
  refine gf_X11_49 (pc := 39) (j := 0) rfl dX11_told_39 ?_
  refine r_lr (by decide) hF (fun b1 hF => ?_)
  refine r_iload_n (pc := 42) 1 dX11_told_42 rfl rfl ?_
  refine r_bipush (pc := 43) (w := 10) dX11_told_43 (by decide) ?_
  refine r_icmp_ne (pc := 45) (tgt := 52) dX11_told_45 rfl hF (fun hF => ?_) (fun hF => ?_)
  · refine r_iconst (pc := 52) (w := 0) dX11_told_52 (by decide) ?_
    exact T.sub ((w_X11_told_p53) M b1 (0 : Int32) hF) [0] [] rfl rfl
  · refine r_iconst (pc := 48) (w := 1) dX11_told_48 (by decide) ?_
    refine r_goto (pc := 49) (tgt := 53) dX11_told_49 rfl ?_
    exact T.sub ((w_X11_told_p53) M b1 (1 : Int32) hF) [0] [] rfl rfl
set_option maxHeartbeats 4000000 in
theorem w_X11_told_p26 {X : Option Cx} {G : EG} {res : Mem × Int64} : ∀ (M : Mem) (x0 : Nat) (x1 : Int32), F_X11_told_p26 M x0 x1 = some res → T X (RJ G res) P_X11_told M [(x0, 13)] [(0, .ref x0), (1, .int x1)] [] 26 := by
  intro M x0 x1 hF
  unfold F_X11_told_p26 at hF
  refine r_iload_n (pc := 26) 1 dX11_told_26 rfl rfl ?_
  refine r_bipush (pc := 27) (w := 9) dX11_told_27 (by decide) ?_
  refine r_icmp_eq (pc := 29) (tgt := 38) dX11_told_29 rfl hF (fun hF => ?_) (fun hF => ?_)
  · exact T.sub ((w_X11_told_p38) M x0 x1 hF) [0] [0, 1] rfl rfl
  · refine r_iload_n (pc := 32) 1 dX11_told_32 rfl rfl ?_
    refine r_bipush (pc := 33) (w := 10) dX11_told_33 (by decide) ?_
    refine r_icmp_ne (pc := 35) (tgt := 57) dX11_told_35 rfl hF (fun hF => ?_) (fun hF => ?_)
    · refine r_aload_n (pc := 57) 0 dX11_told_57 rfl rfl ?_
      refine r_bipush (pc := 58) (w := -2) dX11_told_58 (by decide) ?_
      refine r_callV_J (pc := 60) (Py := P_X11_refuseLong) (n := 1) (As := [.int ((-2 : Int32))]) (fun q e => k_X11_refuseLong G _ x0 (-2 : Int32) q e) (c := 12) (Tb := TX11) (N := 11) rfl (by decide) (j0 := 0) rfl tw_646 tw_648 tw_10 tw_60 tw_649 hd_X11_refuseLong ⟨Nat.le_of_ble_eq_true rfl, Nat.le_of_ble_eq_true rfl⟩ rfl [0] rfl rfl (Nat.le_of_ble_eq_true rfl) dX11_told_60 hF (fun M1 r2 hF => ?_)
      exact r_lret (pc := 63) dX11_told_63 hF
    · exact T.sub ((w_X11_told_p38) M x0 x1 hF) [0] [0, 1] rfl rfl
set_option maxHeartbeats 4000000 in
theorem w_X11_told {X : Option Cx} {G : EG} {res : Mem × Int64} (M : Mem) (a0 : Nat) (a1 : Int32) (hF : F_X11_told M a0 a1 = some res) : T X (RJ G res) P_X11_told M [(a0, 13)] [(0, .ref a0), (1, .int a1)] [] 0 := by
  unfold F_X11_told at hF
  refine r_iload_n (pc := 0) 1 dX11_told_0 rfl rfl ?_
  refine r_if_lt (pc := 1) (tgt := 26) dX11_told_1 rfl hF (fun hF => ?_) (fun hF => ?_)
  · exact T.sub ((w_X11_told_p26) M a0 a1 hF) [0] [0, 1] rfl rfl
  · refine r_iload_n (pc := 4) 1 dX11_told_4 rfl rfl ?_
    refine r_aload_n (pc := 5) 0 dX11_told_5 rfl rfl ?_
    refine gf_X11_49 (pc := 6) (j := 0) rfl dX11_told_6 ?_
    refine r_lr (by decide) hF (fun b1 hF => ?_)
    refine gf_X11_231 (pc := 9) (j := 0) rfl dX11_told_9 ?_
    refine r_lr (by decide) hF (fun b2 hF => ?_)
    refine r_alen (pc := 12) (j := 0) rfl (by decide) dX11_told_12 ?_
    refine r_icmp_ge (pc := 13) (tgt := 26) dX11_told_13 rfl hF (fun hF => ?_) (fun hF => ?_)
    · exact T.sub ((w_X11_told_p26) M a0 a1 hF) [2] [0, 1] rfl rfl
    · refine r_aload_n (pc := 16) 0 dX11_told_16 rfl rfl ?_
      refine gf_X11_49 (pc := 17) (j := 2) rfl dX11_told_17 ?_
      refine r_lr (by decide) hF (fun b3 hF => ?_)
      refine gf_X11_231 (pc := 20) (j := 0) rfl dX11_told_20 ?_
      refine r_lr (by decide) hF (fun b4 hF => ?_)
      refine r_iload_n (pc := 23) 1 dX11_told_23 rfl rfl ?_
      refine r_lald (pc := 24) (j := 0) rfl dX11_told_24 hF (fun hF => ?_)
      exact r_lret (pc := 25) dX11_told_25 hF
theorem k_X11_told (G : EG) (M : Mem) (a0 : Nat) (a1 : Int32) (q : Mem × Int64) (h : F_X11_told M a0 a1 = some q) : Kt yX11_told P_X11_told M [(a0, 13)] [.ref a0, .int a1] (RJ G q) := Kt.of (by decide +kernel) rfl (Nat.le_of_ble_eq_true rfl) rfl (fun X hz => w_X11_told M a0 a1 h)
set_option maxHeartbeats 4000000 in
theorem w_X11_untable {X : Option Cx} {G : EG} {res : Mem × Int32} (M : Mem) (a0 : Nat) (hF : F_X11_untable M a0 = some res) : T X (RI G res) P_X11_untable M [(a0, 13)] [(0, .ref a0)] [] 0 := by
  unfold F_X11_untable at hF
  refine r_aload_n (pc := 0) 0 dX11_untable_0 rfl rfl ?_
  refine gf_X11_19 (pc := 1) (j := 0) rfl dX11_untable_1 ?_
  refine r_lr (by decide) hF (fun b1 hF => ?_)
  refine gf_X11_174 (pc := 4) (j := 0) rfl dX11_untable_4 ?_
  refine r_gI (pc := 7) hF (fun v2 hF => ?_)
  refine r_istore_n (pc := 7) (L1 := [(1, .int v2), (0, .ref a0)]) dX11_untable_7 rfl (by decide) rfl ?_
  refine r_aload_n (pc := 8) 1 dX11_untable_8 rfl rfl ?_
  refine gf_X11_19 (pc := 9) (j := 1) rfl dX11_untable_9 ?_
  refine r_lr (by decide) hF (fun b3 hF => ?_)
  refine r_iconst (pc := 12) (w := 0) dX11_untable_12 (by decide) ?_
  refine pf_X11_174 (pc := 13) (j := 0) rfl dX11_untable_13 hF (fun M4 hF => ?_)
  refine r_iload_n (pc := 16) 0 dX11_untable_16 rfl rfl ?_
  exact r_iret (pc := 17) dX11_untable_17 hF
theorem k_X11_untable (G : EG) (M : Mem) (a0 : Nat) (q : Mem × Int32) (h : F_X11_untable M a0 = some q) : Kt yX11_untable P_X11_untable M [(a0, 13)] [.ref a0] (RI G q) := Kt.of (by decide +kernel) rfl (Nat.le_of_ble_eq_true rfl) rfl (fun X hz => w_X11_untable M a0 h)
set_option maxHeartbeats 4000000 in
theorem w_X11_warmth_p23 {X : Option Cx} {G : EG} {res : Mem × Int64} : ∀ (M : Mem) (y0 : Int64), F_X11_warmth_p23 M y0 = some res → T X (RJ G res) P_X11_warmth M [] [] [.long y0] 23 := by
  intro M y0 hF
  unfold F_X11_warmth_p23 at hF
  exact r_lret (pc := 23) dX11_warmth_23 hF
set_option maxHeartbeats 4000000 in
theorem w_X11_warmth {X : Option Cx} {G : EG} {res : Mem × Int64} (M : Mem) (a0 : Nat) (a1 : Int32) (a2 : Int32) (hF : F_X11_warmth M a0 a1 a2 = some res) : T X (RJ G res) P_X11_warmth M [(a0, 13)] [(0, .ref a0), (1, .int a1), (2, .int a2)] [] 0 := by
  unfold F_X11_warmth at hF
  refine r_aload_n (pc := 0) 0 dX11_warmth_0 rfl rfl ?_
  refine r_iload_n (pc := 1) 1 dX11_warmth_1 rfl rfl ?_
  refine r_iload_n (pc := 2) 2 dX11_warmth_2 rfl rfl ?_
  refine r_callV_R (pc := 3) (Py := P_X11_findRing) (n := 2) (As := [.int a1, .int a2]) (fun q e => k_X11_findRing G _ a0 a1 a2 q e) (c := 12) (Tb := TX11) (N := 11) rfl (by decide) (j0 := 0) rfl tw_640 tw_642 tw_9 tw_60 tw_643 hd_X11_findRing ⟨Nat.le_of_ble_eq_true rfl, Nat.le_of_ble_eq_true rfl⟩ rfl [0] rfl rfl (Nat.le_of_ble_eq_true rfl) dX11_warmth_3 hF (fun M1 r2 hF => ?_)
  refine r_astoreo_n (pc := 6) (r := r2) (L1 := [(3, va_rf r2), (0, .ref a0), (1, .int a1), (2, .int a2)]) dX11_warmth_6 rfl (by decide) rfl ?_
  refine r_aloado_n (pc := 7) 0 dX11_warmth_7 rfl rfl ?_
  refine r_ifnonnull (pc := 8) (tgt := 19) dX11_warmth_8 rfl hF (fun e9 h0 => ?_) (fun b3 e9 h0 => ?_)
  · clear hF
    subst e9
    have hF := h0
    clear h0
    refine r_aload_n (pc := 11) 1 dX11_warmth_11 rfl rfl ?_
    refine r_iconst (pc := 12) (w := -1) dX11_warmth_12 (by decide) ?_
    refine r_callV_J (pc := 13) (Py := P_X11_refuseLong) (n := 1) (As := [.int ((-1 : Int32))]) (fun q e => k_X11_refuseLong G _ a0 (-1 : Int32) q e) (c := 12) (Tb := TX11) (N := 11) rfl (by decide) (j0 := 0) rfl tw_646 tw_648 tw_10 tw_60 tw_649 hd_X11_refuseLong ⟨Nat.le_of_ble_eq_true rfl, Nat.le_of_ble_eq_true rfl⟩ rfl [0] rfl rfl (Nat.le_of_ble_eq_true rfl) dX11_warmth_13 hF (fun M4 r5 hF => ?_)
    refine r_goto (pc := 16) (tgt := 23) dX11_warmth_16 rfl ?_
    exact T.sub ((w_X11_warmth_p23) M4 r5 hF) [] [] rfl rfl
  · clear hF
    subst e9
    have hF := h0
    clear h0
    refine r_aload_n (pc := 19) 0 dX11_warmth_19 rfl rfl ?_
    refine r_kind (by decide) hF (fun hF => ?_)
    refine gf_X11_129 (pc := 20) (j := 0) rfl dX11_warmth_20 ?_
    exact T.sub ((w_X11_warmth_p23) M1 (gJ M1 503 b3) hF) [] [] rfl rfl
theorem k_X11_warmth (G : EG) (M : Mem) (a0 : Nat) (a1 : Int32) (a2 : Int32) (q : Mem × Int64) (h : F_X11_warmth M a0 a1 a2 = some q) : Kt yX11_warmth P_X11_warmth M [(a0, 13)] [.ref a0, .int a1, .int a2] (RJ G q) := Kt.of (by decide +kernel) rfl (Nat.le_of_ble_eq_true rfl) rfl (fun X hz => w_X11_warmth M a0 a1 a2 h)
set_option maxHeartbeats 4000000 in
theorem w_X11_wrong_p37 {X : Option Cx} {G : EG} {res : Mem × Int64} : ∀ (M : Mem) (y0 : Int64), F_X11_wrong_p37 M y0 = some res → T X (RJ G res) P_X11_wrong M [] [] [.long y0] 37 := by
  intro M y0 hF
  unfold F_X11_wrong_p37 at hF
  exact r_lret (pc := 37) dX11_wrong_37 hF
set_option maxHeartbeats 4000000 in
theorem w_X11_wrong_p15 {X : Option Cx} {G : EG} {res : Mem × Int64} : ∀ (M : Mem) (x0 : Nat), F_X11_wrong_p15 M x0 = some res → T X (RJ G res) P_X11_wrong M [(x0, 13)] [(0, .ref x0)] [] 15 := by
  intro M x0 hF
  unfold F_X11_wrong_p15 at hF
  refine r_aload_n (pc := 15) 0 dX11_wrong_15 rfl rfl ?_
  refine r_iconst (pc := 16) (w := -1) dX11_wrong_16 (by decide) ?_
  refine r_callV_J (pc := 17) (Py := P_X11_refuseLong) (n := 1) (As := [.int ((-1 : Int32))]) (fun q e => k_X11_refuseLong G _ x0 (-1 : Int32) q e) (c := 12) (Tb := TX11) (N := 11) rfl (by decide) (j0 := 0) rfl tw_646 tw_648 tw_10 tw_60 tw_649 hd_X11_refuseLong ⟨Nat.le_of_ble_eq_true rfl, Nat.le_of_ble_eq_true rfl⟩ rfl [0] rfl rfl (Nat.le_of_ble_eq_true rfl) dX11_wrong_17 hF (fun M1 r2 hF => ?_)
  refine r_goto (pc := 20) (tgt := 37) dX11_wrong_20 rfl ?_
  exact T.sub ((w_X11_wrong_p37) M1 r2 hF) [] [] rfl rfl
set_option maxHeartbeats 4000000 in
theorem w_X11_wrong {X : Option Cx} {G : EG} {res : Mem × Int64} (M : Mem) (a0 : Nat) (a1 : Int32) (hF : F_X11_wrong M a0 a1 = some res) : T X (RJ G res) P_X11_wrong M [(a0, 13)] [(0, .ref a0), (1, .int a1)] [] 0 := by
  unfold F_X11_wrong at hF
  refine r_iload_n (pc := 0) 1 dX11_wrong_0 rfl rfl ?_
  refine r_if_lt (pc := 1) (tgt := 15) dX11_wrong_1 rfl hF (fun hF => ?_) (fun hF => ?_)
  · exact T.sub ((w_X11_wrong_p15) M a0 hF) [0] [0] rfl rfl
  · refine r_iload_n (pc := 4) 1 dX11_wrong_4 rfl rfl ?_
    refine r_aload_n (pc := 5) 0 dX11_wrong_5 rfl rfl ?_
    refine gf_X11_59 (pc := 6) (j := 0) rfl dX11_wrong_6 ?_
    refine r_lr (by decide) hF (fun b1 hF => ?_)
    refine r_callV_I (pc := 9) (Py := P_Jx4a65c_size_8abf5) (n := 0) (As := []) (fun q e => k_Jx4a65c_size_8abf5 G _ b1 q e) (c := 0) (Tb := TJx4a65c) (N := 3) rfl (by decide) (j0 := 0) rfl tw_470 tw_344 tw_345 tw_64 tw_346 hd_Jx4a65c_size_8abf5 ⟨Nat.le_of_ble_eq_true rfl, Nat.le_of_ble_eq_true rfl⟩ rfl [0] rfl rfl (Nat.le_of_ble_eq_true rfl) dX11_wrong_9 hF (fun M2 r3 hF => ?_)
    refine r_icmp_lt (pc := 12) (tgt := 23) dX11_wrong_12 rfl hF (fun hF => ?_) (fun hF => ?_)
    · refine r_aload_n (pc := 23) 0 dX11_wrong_23 rfl rfl ?_
      refine gf_X11_59 (pc := 24) (j := 1) rfl dX11_wrong_24 ?_
      refine r_lr (by decide) hF (fun b4 hF => ?_)
      refine r_iload_n (pc := 27) 1 dX11_wrong_27 rfl rfl ?_
      refine r_callV_R (pc := 28) (Py := P_Jx4a65c_get_915e3) (n := 1) (As := [.int a1]) (fun q e => k_Jx4a65c_get_915e3 G _ b4 a1 q e) (c := 0) (Tb := TJx4a65c) (N := 3) rfl (by decide) (j0 := 0) rfl tw_644 tw_348 tw_349 tw_64 tw_350 hd_Jx4a65c_get_915e3 ⟨Nat.le_of_ble_eq_true rfl, Nat.le_of_ble_eq_true rfl⟩ rfl [0] rfl rfl (Nat.le_of_ble_eq_true rfl) dX11_wrong_28 hF (fun M5 r6 hF => ?_)
      refine r_lr (by decide) hF (fun b7 hF => ?_)
      refine r_cast (pc := 31) (c := 4) (Tb := TX3) (N := 3) rfl (by decide) (j := 0) rfl tw_1040 dX11_wrong_31 ?_
      refine gf_X11_298 (pc := 34) (j := 0) rfl dX11_wrong_34 ?_
      exact T.sub ((w_X11_wrong_p37) M5 (gJ M5 402 b7) hF) [] [] rfl rfl
    · exact T.sub ((w_X11_wrong_p15) M2 a0 hF) [1] [0] rfl rfl
theorem k_X11_wrong (G : EG) (M : Mem) (a0 : Nat) (a1 : Int32) (q : Mem × Int64) (h : F_X11_wrong M a0 a1 = some q) : Kt yX11_wrong P_X11_wrong M [(a0, 13)] [.ref a0, .int a1] (RJ G q) := Kt.of (by decide +kernel) rfl (Nat.le_of_ble_eq_true rfl) rfl (fun X hz => w_X11_wrong M a0 a1 h)
set_option maxHeartbeats 4000000 in
theorem w_X12_bars_p21 {X : Option Cx} {G : EG} {res : Mem × Int32} : ∀ (M : Mem) (y0 : Int32), F_X12_bars_p21 M y0 = some res → T X (RI G res) P_X12_bars M [] [] [.int y0] 21 := by
  intro M y0 hF
  unfold F_X12_bars_p21 at hF
  exact r_iret (pc := 21) dX12_bars_21 hF
set_option maxHeartbeats 4000000 in
theorem w_X12_bars {X : Option Cx} {G : EG} {res : Mem × Int32} (M : Mem) (a0 : Nat) (a1 : Int32) (a2 : Int32) (hF : F_X12_bars M a0 a1 a2 = some res) : T X (RI G res) P_X12_bars M [(a0, 14)] [(0, .ref a0), (1, .int a1), (2, .int a2)] [] 0 := by
  unfold F_X12_bars at hF
  refine r_iload_n (pc := 0) 1 dX12_bars_0 rfl rfl ?_
  refine r_iconst (pc := 1) (w := 1) dX12_bars_1 (by decide) ?_
  refine r_icmp_ge (pc := 2) (tgt := 10) dX12_bars_2 rfl hF (fun hF => ?_) (fun hF => ?_)
  · refine r_iload_n (pc := 10) 1 dX12_bars_10 rfl rfl ?_
    refine r_iload_n (pc := 11) 2 dX12_bars_11 rfl rfl ?_
    refine r_icmp_le (pc := 12) (tgt := 20) dX12_bars_12 rfl hF (fun hF => ?_) (fun hF => ?_)
    · refine r_iconst (pc := 20) (w := 0) dX12_bars_20 (by decide) ?_
      exact T.sub ((w_X12_bars_p21) M (0 : Int32) hF) [] [] rfl rfl
    · refine r_bipush (pc := 15) (w := -6) dX12_bars_15 (by decide) ?_
      refine r_goto (pc := 17) (tgt := 21) dX12_bars_17 rfl ?_
      exact T.sub ((w_X12_bars_p21) M (-6 : Int32) hF) [] [] rfl rfl
  · refine r_bipush (pc := 5) (w := -4) dX12_bars_5 (by decide) ?_
    refine r_goto (pc := 7) (tgt := 21) dX12_bars_7 rfl ?_
    exact T.sub ((w_X12_bars_p21) M (-4 : Int32) hF) [] [] rfl rfl
theorem k_X12_bars (G : EG) (M : Mem) (a0 : Nat) (a1 : Int32) (a2 : Int32) (q : Mem × Int32) (h : F_X12_bars M a0 a1 a2 = some q) : Kt yX12_bars P_X12_bars M [(a0, 14)] [.ref a0, .int a1, .int a2] (RI G q) := Kt.of (by decide +kernel) rfl (Nat.le_of_ble_eq_true rfl) rfl (fun X hz => w_X12_bars M a0 a1 a2 h)
set_option maxHeartbeats 4000000 in
theorem w_X12_liftAt_p37 {X : Option Cx} {G : EG} {res : Mem × Int64} {k82 : Mem → Nat → Int64 → Int32 → Int64 → Int64 → Option (Mem × Int64)} (hk82 : ∀ (M : Mem) (x0 : Nat) (x1 : Int64) (x3 : Int32) (x4 : Int64) (x6 : Int64), k82 M x0 x1 x3 x4 x6 = some res → T X (RJ G res) P_X12_liftAt M [(x0, 14)] [(0, .ref x0), (1, .long x1), (3, .int x3), (4, .long x4), (6, .long x6)] [] 82) {k124 : Mem → Nat → Option (Mem × Int64)} (hk124 : ∀ (M : Mem) (x0 : Nat), k124 M x0 = some res → T X (RJ G res) P_X12_liftAt M [(x0, 14)] [(0, .ref x0)] [] 124) : ∀ (n : Nat) (M : Mem) (x0 : Nat) (x1 : Int64) (x3 : Int32), F_X12_liftAt_p37 k82 k124 n M x0 x1 x3 = some res → T X (RJ G res) P_X12_liftAt M [(x0, 14)] [(0, .ref x0), (1, .long x1), (3, .int x3)] [] 37 := by
  intro n
  induction n with
  | zero =>
    intro M x0 x1 x3 hF
    cases hF
  | succ n ih =>
    intro M x0 x1 x3 hF
    unfold F_X12_liftAt_p37 at hF
    refine r_iload_n (pc := 37) 2 dX12_liftAt_37 rfl rfl ?_
    refine r_iconst (pc := 38) (w := 1) dX12_liftAt_38 (by decide) ?_
    refine r_iadd (pc := 39) dX12_liftAt_39 ?_
    refine r_aload_n (pc := 40) 0 dX12_liftAt_40 rfl rfl ?_
    refine gf_X12_208 (pc := 41) (j := 0) rfl dX12_liftAt_41 ?_
    refine r_icmp_ge (pc := 44) (tgt := 124) dX12_liftAt_44 rfl hF (fun hF => ?_) (fun hF => ?_)
    · exact T.sub (hk124 M x0 hF) [0] [0] rfl rfl
    · refine r_ldc2 (pc := 47) (w := 1000) tw_1299 dX12_liftAt_47 ?_
      refine r_aload_n (pc := 50) 0 dX12_liftAt_50 rfl rfl ?_
      refine gf_X12_66 (pc := 51) (j := 0) rfl dX12_liftAt_51 ?_
      refine r_lr (by decide) hF (fun b1 hF => ?_)
      refine r_iload_n (pc := 54) 2 dX12_liftAt_54 rfl rfl ?_
      refine r_iald (pc := 55) (j := 0) rfl dX12_liftAt_55 hF (fun hF => ?_)
      refine r_i2l (pc := 56) dX12_liftAt_56 ?_
      refine r_lmul (pc := 57) dX12_liftAt_57 ?_
      refine r_gJ (pc := 58) hF (fun v2 hF => ?_)
      refine r_lstore (pc := 58) (L1 := [(4, .long v2), (0, .ref x0), (1, .long x1), (3, .int x3)]) dX12_liftAt_58 (by decide) rfl ?_
      refine r_ldc2 (pc := 60) (w := 1000) tw_1299 dX12_liftAt_60 ?_
      refine r_aload_n (pc := 63) 1 dX12_liftAt_63 rfl rfl ?_
      refine gf_X12_66 (pc := 64) (j := 1) rfl dX12_liftAt_64 ?_
      refine r_lr (by decide) hF (fun b3 hF => ?_)
      refine r_iload_n (pc := 67) 3 dX12_liftAt_67 rfl rfl ?_
      refine r_iconst (pc := 68) (w := 1) dX12_liftAt_68 (by decide) ?_
      refine r_iadd (pc := 69) dX12_liftAt_69 ?_
      refine r_iald (pc := 70) (j := 0) rfl dX12_liftAt_70 hF (fun hF => ?_)
      refine r_i2l (pc := 71) dX12_liftAt_71 ?_
      refine r_lmul (pc := 72) dX12_liftAt_72 ?_
      refine r_gJ (pc := 73) hF (fun v4 hF => ?_)
      refine r_lstore (pc := 73) (L1 := [(6, .long v4), (4, .long v2), (0, .ref x0), (1, .long x1), (3, .int x3)]) dX12_liftAt_73 (by decide) rfl ?_
      refine r_lload_n (pc := 75) 3 dX12_liftAt_75 rfl rfl ?_
      refine r_lload (pc := 76) 0 dX12_liftAt_76 rfl ?_
      refine r_lcmp (pc := 78) dX12_liftAt_78 ?_
      refine r_if_ge (pc := 79) (tgt := 118) dX12_liftAt_79 rfl hF (fun hF => ?_) (fun hF => ?_)
      · obtain ⟨v5, e9, hF⟩ := bnd_e hF
        refine r_iinc (pc := 118) (w := v5) (k := 4) (L1 := [(3, .int v5), (6, .long v4), (4, .long v2), (0, .ref x0), (1, .long x1)]) dX12_liftAt_118 rfl (by rw [e9]; rfl) (by decide) rfl ?_
        clear e9
        refine r_goto (pc := 121) (tgt := 37) dX12_liftAt_121 rfl ?_
        exact T.sub (ih M x0 x1 v5 hF) [2] [3, 4, 0] rfl rfl
      · exact T.sub (hk82 M x0 x1 x3 v2 v4 hF) [2] [2, 3, 4, 1, 0] rfl rfl
set_option maxHeartbeats 4000000 in
theorem w_X12_liftAt_p82 {X : Option Cx} {G : EG} {res : Mem × Int64} : ∀ (M : Mem) (x0 : Nat) (x1 : Int64) (x3 : Int32) (x4 : Int64) (x6 : Int64), F_X12_liftAt_p82 M x0 x1 x3 x4 x6 = some res → T X (RJ G res) P_X12_liftAt M [(x0, 14)] [(0, .ref x0), (1, .long x1), (3, .int x3), (4, .long x4), (6, .long x6)] [] 82 := by
  intro M x0 x1 x3 x4 x6 hF
  unfold F_X12_liftAt_p82 at hF
  refine r_aload_n (pc := 82) 0 dX12_liftAt_82 rfl rfl ?_
  refine gf_X12_69 (pc := 83) (j := 0) rfl dX12_liftAt_83 ?_
  refine r_lr (by decide) hF (fun b1 hF => ?_)
  refine r_iload_n (pc := 86) 2 dX12_liftAt_86 rfl rfl ?_
  refine r_iald (pc := 87) (j := 0) rfl dX12_liftAt_87 hF (fun hF => ?_)
  refine r_i2l (pc := 88) dX12_liftAt_88 ?_
  refine r_aload_n (pc := 89) 0 dX12_liftAt_89 rfl rfl ?_
  refine gf_X12_69 (pc := 90) (j := 1) rfl dX12_liftAt_90 ?_
  refine r_lr (by decide) hF (fun b2 hF => ?_)
  refine r_iload_n (pc := 93) 2 dX12_liftAt_93 rfl rfl ?_
  refine r_iconst (pc := 94) (w := 1) dX12_liftAt_94 (by decide) ?_
  refine r_iadd (pc := 95) dX12_liftAt_95 ?_
  refine r_iald (pc := 96) (j := 0) rfl dX12_liftAt_96 hF (fun hF => ?_)
  refine r_aload_n (pc := 97) 0 dX12_liftAt_97 rfl rfl ?_
  refine gf_X12_69 (pc := 98) (j := 2) rfl dX12_liftAt_98 ?_
  refine r_lr (by decide) hF (fun b3 hF => ?_)
  refine r_iload_n (pc := 101) 2 dX12_liftAt_101 rfl rfl ?_
  refine r_iald (pc := 102) (j := 0) rfl dX12_liftAt_102 hF (fun hF => ?_)
  refine r_isub (pc := 103) dX12_liftAt_103 ?_
  refine r_i2l (pc := 104) dX12_liftAt_104 ?_
  refine r_lload_n (pc := 105) 1 dX12_liftAt_105 rfl rfl ?_
  refine r_lload (pc := 106) 3 dX12_liftAt_106 rfl ?_
  refine r_lsub (pc := 108) dX12_liftAt_108 ?_
  refine r_lmul (pc := 109) dX12_liftAt_109 ?_
  refine r_lload (pc := 110) 4 dX12_liftAt_110 rfl ?_
  refine r_lload (pc := 112) 3 dX12_liftAt_112 rfl ?_
  refine r_lsub (pc := 114) dX12_liftAt_114 ?_
  refine r_ldiv (pc := 115) dX12_liftAt_115 hF (fun hF => ?_)
  refine r_ladd (pc := 116) dX12_liftAt_116 ?_
  exact r_lret (pc := 117) dX12_liftAt_117 hF
set_option maxHeartbeats 4000000 in
theorem w_X12_liftAt_p124 {X : Option Cx} {G : EG} {res : Mem × Int64} : ∀ (M : Mem) (x0 : Nat), F_X12_liftAt_p124 M x0 = some res → T X (RJ G res) P_X12_liftAt M [(x0, 14)] [(0, .ref x0)] [] 124 := by
  intro M x0 hF
  unfold F_X12_liftAt_p124 at hF
  refine r_aload_n (pc := 124) 0 dX12_liftAt_124 rfl rfl ?_
  refine gf_X12_69 (pc := 125) (j := 0) rfl dX12_liftAt_125 ?_
  refine r_lr (by decide) hF (fun b1 hF => ?_)
  refine r_aload_n (pc := 128) 0 dX12_liftAt_128 rfl rfl ?_
  refine gf_X12_208 (pc := 129) (j := 1) rfl dX12_liftAt_129 ?_
  refine r_iconst (pc := 132) (w := 1) dX12_liftAt_132 (by decide) ?_
  refine r_isub (pc := 133) dX12_liftAt_133 ?_
  refine r_iald (pc := 134) (j := 0) rfl dX12_liftAt_134 hF (fun hF => ?_)
  refine r_i2l (pc := 135) dX12_liftAt_135 ?_
  exact r_lret (pc := 136) dX12_liftAt_136 hF
set_option maxHeartbeats 4000000 in
theorem w_X12_liftAt {X : Option Cx} {G : EG} {res : Mem × Int64} (M : Mem) (a0 : Nat) (a1 : Int64) (hF : F_X12_liftAt M a0 a1 = some res) : T X (RJ G res) P_X12_liftAt M [(a0, 14)] [(0, .ref a0), (1, .long a1)] [] 0 := by
  unfold F_X12_liftAt at hF
  refine r_aload_n (pc := 0) 0 dX12_liftAt_0 rfl rfl ?_
  refine gf_X12_208 (pc := 1) (j := 0) rfl dX12_liftAt_1 ?_
  refine r_if_ne (pc := 4) (tgt := 11) dX12_liftAt_4 rfl hF (fun hF => ?_) (fun hF => ?_)
  · refine r_lload_n (pc := 11) 1 dX12_liftAt_11 rfl rfl ?_
    refine r_ldc2 (pc := 12) (w := 1000) tw_1299 dX12_liftAt_12 ?_
    refine r_aload_n (pc := 15) 0 dX12_liftAt_15 rfl rfl ?_
    refine gf_X12_66 (pc := 16) (j := 0) rfl dX12_liftAt_16 ?_
    refine r_lr (by decide) hF (fun b1 hF => ?_)
    refine r_iconst (pc := 19) (w := 0) dX12_liftAt_19 (by decide) ?_
    refine r_iald (pc := 20) (j := 0) rfl dX12_liftAt_20 hF (fun hF => ?_)
    refine r_i2l (pc := 21) dX12_liftAt_21 ?_
    refine r_lmul (pc := 22) dX12_liftAt_22 ?_
    refine r_lcmp (pc := 23) dX12_liftAt_23 ?_
    refine r_if_gt (pc := 24) (tgt := 35) dX12_liftAt_24 rfl hF (fun hF => ?_) (fun hF => ?_)
    · refine r_iconst (pc := 35) (w := 0) dX12_liftAt_35 (by decide) ?_
      refine r_istore_n (pc := 36) (L1 := [(3, .int ((0 : Int32))), (0, .ref a0), (1, .long a1)]) dX12_liftAt_36 rfl (by decide) rfl ?_
      exact T.sub ((w_X12_liftAt_p37 (w_X12_liftAt_p82) (w_X12_liftAt_p124) FU) M a0 a1 (0 : Int32) hF) [1] [1, 2, 0] rfl rfl
    · refine r_aload_n (pc := 27) 0 dX12_liftAt_27 rfl rfl ?_
      refine gf_X12_69 (pc := 28) (j := 1) rfl dX12_liftAt_28 ?_
      refine r_lr (by decide) hF (fun b2 hF => ?_)
      refine r_iconst (pc := 31) (w := 0) dX12_liftAt_31 (by decide) ?_
      refine r_iald (pc := 32) (j := 0) rfl dX12_liftAt_32 hF (fun hF => ?_)
      refine r_i2l (pc := 33) dX12_liftAt_33 ?_
      exact r_lret (pc := 34) dX12_liftAt_34 hF
  · refine r_ldc2 (pc := 7) (w := 100) tw_1317 dX12_liftAt_7 ?_
    exact r_lret (pc := 10) dX12_liftAt_10 hF
theorem k_X12_liftAt (G : EG) (M : Mem) (a0 : Nat) (a1 : Int64) (q : Mem × Int64) (h : F_X12_liftAt M a0 a1 = some q) : Kt yX12_liftAt P_X12_liftAt M [(a0, 14)] [.ref a0, .long a1] (RJ G q) := Kt.of (by decide +kernel) rfl (Nat.le_of_ble_eq_true rfl) rfl (fun X hz => w_X12_liftAt M a0 a1 h)
