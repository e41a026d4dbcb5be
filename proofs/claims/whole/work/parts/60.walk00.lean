set_option maxHeartbeats 4000000 in
theorem w_X11_cut_p13 {X : Option Cx} {G : EG} {res : Mem × Int64} : ∀ (M : Mem) (y0 : Int64), F_X11_cut_p13 M y0 = some res → T X (RJ G res) P_X11_cut M [] [] [.long y0] 13 := by
  intro M y0 hF
  unfold F_X11_cut_p13 at hF
  exact r_lret (pc := 13) dX11_cut_13 hF
set_option maxHeartbeats 4000000 in
theorem w_X11_cut {X : Option Cx} {G : EG} {res : Mem × Int64} (M : Mem) (a0 : Int64) (a1 : Int64) (hF : F_X11_cut M a0 a1 = some res) : T X (RJ G res) P_X11_cut M [] [(0, .long a0), (2, .long a1)] [] 0 := by
  unfold F_X11_cut at hF
  refine r_lload_n (pc := 0) 1 dX11_cut_0 rfl rfl ?_
  refine r_lconst (pc := 1) (w := 0) dX11_cut_1 (by decide) ?_
  refine r_lcmp (pc := 2) dX11_cut_2 ?_
  refine r_if_ne (pc := 3) (tgt := 10) dX11_cut_3 rfl hF (fun hF => ?_) (fun hF => ?_)
  · refine r_lload_n (pc := 10) 0 dX11_cut_10 rfl rfl ?_
    refine r_lload_n (pc := 11) 1 dX11_cut_11 rfl rfl ?_
    refine r_ldiv (pc := 12) dX11_cut_12 hF (fun hF => ?_)
    exact T.sub ((w_X11_cut_p13) M (a0 / a1) hF) [] [] rfl rfl
  · refine r_lconst (pc := 6) (w := 0) dX11_cut_6 (by decide) ?_
    refine r_goto (pc := 7) (tgt := 13) dX11_cut_7 rfl ?_
    exact T.sub ((w_X11_cut_p13) M (0 : Int64) hF) [] [] rfl rfl
theorem k_X11_cut (G : EG) (M : Mem) (a0 : Int64) (a1 : Int64) (q : Mem × Int64) (h : F_X11_cut M a0 a1 = some q) : Kt yX11_cut P_X11_cut M [] [.long a0, .long a1] (RJ G q) := Kt.of (by decide +kernel) rfl (Nat.le_of_ble_eq_true rfl) rfl (fun X hz => w_X11_cut M a0 a1 h)
set_option maxHeartbeats 4000000 in
theorem w_X4_follow {X : Option Cx} {G : EG} {res : Mem × Unit} (M : Mem) (a0 : Nat) (a1 : Nat) (hF : F_X4_follow M a0 a1 = some res) : T X (RV G res) P_X4_follow M [(a0, 6), (a1, 6)] [(0, .ref a0), (1, .ref a1)] [] 0 := by
  unfold F_X4_follow at hF
  refine r_aload_n (pc := 0) 0 dX4_follow_0 rfl rfl ?_
  refine r_aload_n (pc := 1) 1 dX4_follow_1 rfl rfl ?_
  refine gf_X4_18 (pc := 2) (j := 1) rfl dX4_follow_2 ?_
  refine pf_X4_18 (pc := 5) (j := 0) rfl dX4_follow_5 hF (fun M1 hF => ?_)
  refine r_aload_n (pc := 8) 0 dX4_follow_8 rfl rfl ?_
  refine r_aload_n (pc := 9) 1 dX4_follow_9 rfl rfl ?_
  refine gf_X4_27 (pc := 10) (j := 1) rfl dX4_follow_10 ?_
  refine pf_X4_27 (pc := 13) (j := 0) rfl dX4_follow_13 hF (fun M2 hF => ?_)
  refine r_aload_n (pc := 16) 0 dX4_follow_16 rfl rfl ?_
  refine r_lconst (pc := 17) (w := 0) dX4_follow_17 (by decide) ?_
  refine pf_X4_30 (pc := 18) (j := 0) rfl dX4_follow_18 hF (fun M3 hF => ?_)
  exact r_vret (pc := 21) dX4_follow_21 hF
theorem k_X4_follow (G : EG) (M : Mem) (a0 : Nat) (a1 : Nat) (q : Mem × Unit) (h : F_X4_follow M a0 a1 = some q) : Kt yX4_follow P_X4_follow M [(a0, 6), (a1, 6)] [.ref a0, .ref a1] (RV G q) := Kt.of (by decide +kernel) rfl (Nat.le_of_ble_eq_true rfl) rfl (fun X hz => w_X4_follow M a0 a1 h)
set_option maxHeartbeats 4000000 in
theorem w_X4_init {X : Option Cx} {G : EG} {res : Mem × Unit} (hzi : ∀ x, X = some x → Zi x) (M : Mem) (a0 : Nat) (a1 : Int64) (a2 : Int64) (hF : F_X4_init M a0 a1 a2 = some res) : T X (RV G res) P_X4_init M [(a0, 6)] [(0, .ref a0), (1, .long a1), (3, .long a2)] [] 0 := by
  unfold F_X4_init at hF
  refine r_aload_n (pc := 0) 0 dX4_init_0 rfl rfl ?_
  refine r_objInit (pc := 1) tw_483 tw_93 tw_94 ⟨Nat.le_of_ble_eq_true rfl, Nat.le_of_ble_eq_true rfl⟩ (Nat.le_of_ble_eq_true rfl) dX4_init_1 ?_
  refine r_aload_n (pc := 4) 0 dX4_init_4 rfl rfl ?_
  refine r_lload_n (pc := 5) 1 dX4_init_5 rfl rfl ?_
  refine pf_X4_7 (pc := 6) hzi (j := 0) rfl dX4_init_6 hF (fun M1 hF => ?_)
  refine r_aload_n (pc := 9) 0 dX4_init_9 rfl rfl ?_
  refine r_ldc2 (pc := 10) (w := 1000) tw_484 dX4_init_10 ?_
  refine r_lload_n (pc := 13) 2 dX4_init_13 rfl rfl ?_
  refine r_lmul (pc := 14) dX4_init_14 ?_
  refine r_lload_n (pc := 15) 1 dX4_init_15 rfl rfl ?_
  refine r_lmul (pc := 16) dX4_init_16 ?_
  refine pf_X4_15 (pc := 17) hzi (j := 0) rfl dX4_init_17 hF (fun M2 hF => ?_)
  refine r_aload_n (pc := 20) 0 dX4_init_20 rfl rfl ?_
  refine r_aload_n (pc := 21) 0 dX4_init_21 rfl rfl ?_
  refine gf_X4_15 (pc := 22) (j := 0) rfl dX4_init_22 ?_
  refine pf_X4_18 (pc := 25) (j := 0) rfl dX4_init_25 hF (fun M3 hF => ?_)
  refine r_aload_n (pc := 28) 0 dX4_init_28 rfl rfl ?_
  refine r_aload_n (pc := 29) 0 dX4_init_29 rfl rfl ?_
  refine gf_X4_15 (pc := 30) (j := 0) rfl dX4_init_30 ?_
  refine r_lload_n (pc := 33) 1 dX4_init_33 rfl rfl ?_
  refine r_callSN_J (pc := 34) (Py := P_X11_cut) (n := 2) (As := [.long (gJ M3 501 a0), .long a1]) (fun q e => k_X11_cut G _ (gJ M3 501 a0) a1 q e) tw_465 tw_400 tw_60 tw_401 hd_X11_cut ⟨Nat.le_of_ble_eq_true rfl, Nat.le_of_ble_eq_true rfl⟩ rfl [] rfl rfl (Nat.le_of_ble_eq_true rfl) dX4_init_34 hF (fun M4 r5 hF => ?_)
  refine pf_X4_27 (pc := 37) (j := 0) rfl dX4_init_37 hF (fun M6 hF => ?_)
  exact r_vret (pc := 40) dX4_init_40 hF
theorem k_X4_init (G : EG) (M : Mem) (a0 : Nat) (a1 : Int64) (a2 : Int64) (q : Mem × Unit) (h : F_X4_init M a0 a1 a2 = some q) : Kt yX4_init P_X4_init M [(a0, 6)] [.ref a0, .long a1, .long a2] (RV G q) := Kt.of (by decide +kernel) rfl (Nat.le_of_ble_eq_true rfl) rfl (fun X hz => w_X4_init (fun x hx => hz x hx rfl) M a0 a1 a2 h)
set_option maxHeartbeats 4000000 in
theorem w_X4_settle {X : Option Cx} {G : EG} {res : Mem × Unit} (M : Mem) (a0 : Nat) (hF : F_X4_settle M a0 = some res) : T X (RV G res) P_X4_settle M [(a0, 6)] [(0, .ref a0)] [] 0 := by
  unfold F_X4_settle at hF
  refine r_aload_n (pc := 0) 0 dX4_settle_0 rfl rfl ?_
  refine r_dup (pc := 1) dX4_settle_1 rfl ?_
  refine gf_X4_18 (pc := 2) (j := 0) rfl dX4_settle_2 ?_
  refine r_aload_n (pc := 5) 0 dX4_settle_5 rfl rfl ?_
  refine gf_X4_30 (pc := 6) (j := 0) rfl dX4_settle_6 ?_
  refine r_ladd (pc := 9) dX4_settle_9 ?_
  refine pf_X4_18 (pc := 10) (j := 0) rfl dX4_settle_10 hF (fun M1 hF => ?_)
  refine r_aload_n (pc := 13) 0 dX4_settle_13 rfl rfl ?_
  refine r_lconst (pc := 14) (w := 0) dX4_settle_14 (by decide) ?_
  refine pf_X4_30 (pc := 15) (j := 0) rfl dX4_settle_15 hF (fun M2 hF => ?_)
  refine r_aload_n (pc := 18) 0 dX4_settle_18 rfl rfl ?_
  refine r_aload_n (pc := 19) 0 dX4_settle_19 rfl rfl ?_
  refine gf_X4_18 (pc := 20) (j := 0) rfl dX4_settle_20 ?_
  refine r_aload_n (pc := 23) 0 dX4_settle_23 rfl rfl ?_
  refine gf_X4_7 (pc := 24) (j := 0) rfl dX4_settle_24 ?_
  refine r_callSN_J (pc := 27) (Py := P_X11_cut) (n := 2) (As := [.long (gJ M2 502 a0), .long (gJ M2 500 a0)]) (fun q e => k_X11_cut G _ (gJ M2 502 a0) (gJ M2 500 a0) q e) tw_465 tw_400 tw_60 tw_401 hd_X11_cut ⟨Nat.le_of_ble_eq_true rfl, Nat.le_of_ble_eq_true rfl⟩ rfl [] rfl rfl (Nat.le_of_ble_eq_true rfl) dX4_settle_27 hF (fun M3 r4 hF => ?_)
  refine pf_X4_27 (pc := 30) (j := 0) rfl dX4_settle_30 hF (fun M5 hF => ?_)
  exact r_vret (pc := 33) dX4_settle_33 hF
theorem k_X4_settle (G : EG) (M : Mem) (a0 : Nat) (q : Mem × Unit) (h : F_X4_settle M a0 = some q) : Kt yX4_settle P_X4_settle M [(a0, 6)] [.ref a0] (RV G q) := Kt.of (by decide +kernel) rfl (Nat.le_of_ble_eq_true rfl) rfl (fun X hz => w_X4_settle M a0 h)
