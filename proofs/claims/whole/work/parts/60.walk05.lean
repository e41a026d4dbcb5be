set_option maxHeartbeats 4000000 in
theorem w_X12_refuse {X : Option Cx} {G : EG} {res : Mem × Int32} (M : Mem) (a0 : Nat) (a1 : Int32) (hF : F_X12_refuse M a0 a1 = some res) : T X (RI G res) P_X12_refuse M [(a0, 14)] [(0, .ref a0), (1, .int a1)] [] 0 := by
  unfold F_X12_refuse at hF
  refine r_aload_n (pc := 0) 0 dX12_refuse_0 rfl rfl ?_
  refine gf_X12_7 (pc := 1) (j := 0) rfl dX12_refuse_1 ?_
  refine r_lr (by decide) hF (fun b1 hF => ?_)
  refine r_iload_n (pc := 4) 1 dX12_refuse_4 rfl rfl ?_
  refine r_ineg (pc := 5) dX12_refuse_5 ?_
  refine r_dup2 (pc := 6) dX12_refuse_6 rfl rfl ?_
  refine r_iald (pc := 7) (j := 0) rfl dX12_refuse_7 hF (fun hF => ?_)
  refine r_iconst (pc := 8) (w := 1) dX12_refuse_8 (by decide) ?_
  refine r_iadd (pc := 9) dX12_refuse_9 ?_
  refine r_iast (pc := 10) (j := 0) rfl dX12_refuse_10 hF (fun M2 hF => ?_)
  refine r_iload_n (pc := 11) 1 dX12_refuse_11 rfl rfl ?_
  exact r_iret (pc := 12) dX12_refuse_12 hF
theorem k_X12_refuse (G : EG) (M : Mem) (a0 : Nat) (a1 : Int32) (q : Mem × Int32) (h : F_X12_refuse M a0 a1 = some q) : Kt yX12_refuse P_X12_refuse M [(a0, 14)] [.ref a0, .int a1] (RI G q) := Kt.of (by decide +kernel) rfl (Nat.le_of_ble_eq_true rfl) rfl (fun X hz => w_X12_refuse M a0 a1 h)
set_option maxHeartbeats 4000000 in
theorem w_X12_refuseLong {X : Option Cx} {G : EG} {res : Mem × Int64} (M : Mem) (a0 : Nat) (a1 : Int32) (hF : F_X12_refuseLong M a0 a1 = some res) : T X (RJ G res) P_X12_refuseLong M [(a0, 14)] [(0, .ref a0), (1, .int a1)] [] 0 := by
  unfold F_X12_refuseLong at hF
  refine r_ldc2 (pc := 0) (w := 4000000000000000000) tw_1365 dX12_refuseLong_0 ?_
  refine r_aload_n (pc := 3) 0 dX12_refuseLong_3 rfl rfl ?_
  refine r_iload_n (pc := 4) 1 dX12_refuseLong_4 rfl rfl ?_
  refine r_callV_I (pc := 5) (Py := P_X12_refuse) (n := 1) (As := [.int a1]) (fun q e => k_X12_refuse G _ a0 a1 q e) (c := 13) (Tb := TX12) (N := 58) rfl (by decide) (j0 := 0) rfl tw_1266 tw_1268 tw_28 tw_70 tw_1269 hd_X12_refuse ⟨Nat.le_of_ble_eq_true rfl, Nat.le_of_ble_eq_true rfl⟩ rfl [0] rfl rfl (Nat.le_of_ble_eq_true rfl) dX12_refuseLong_5 hF (fun M1 r2 hF => ?_)
  refine r_i2l (pc := 8) dX12_refuseLong_8 ?_
  refine r_lsub (pc := 9) dX12_refuseLong_9 ?_
  exact r_lret (pc := 10) dX12_refuseLong_10 hF
theorem k_X12_refuseLong (G : EG) (M : Mem) (a0 : Nat) (a1 : Int32) (q : Mem × Int64) (h : F_X12_refuseLong M a0 a1 = some q) : Kt yX12_refuseLong P_X12_refuseLong M [(a0, 14)] [.ref a0, .int a1] (RJ G q) := Kt.of (by decide +kernel) rfl (Nat.le_of_ble_eq_true rfl) rfl (fun X hz => w_X12_refuseLong M a0 a1 h)
set_option maxHeartbeats 4000000 in
theorem w_X12_ahead_p14 {X : Option Cx} {G : EG} {res : Mem × Int64} : ∀ (M : Mem) (x0 : Nat), F_X12_ahead_p14 M x0 = some res → T X (RJ G res) P_X12_ahead M [(x0, 14)] [(0, .ref x0)] [] 14 := by
  intro M x0 hF
  unfold F_X12_ahead_p14 at hF
  refine r_aload_n (pc := 14) 0 dX12_ahead_14 rfl rfl ?_
  refine r_iconst (pc := 15) (w := -1) dX12_ahead_15 (by decide) ?_
  refine r_callV_J (pc := 16) (Py := P_X12_refuseLong) (n := 1) (As := [.int ((-1 : Int32))]) (fun q e => k_X12_refuseLong G _ x0 (-1 : Int32) q e) (c := 13) (Tb := TX12) (N := 58) rfl (by decide) (j0 := 0) rfl tw_1361 tw_1363 tw_43 tw_70 tw_1364 hd_X12_refuseLong ⟨Nat.le_of_ble_eq_true rfl, Nat.le_of_ble_eq_true rfl⟩ rfl [0] rfl rfl (Nat.le_of_ble_eq_true rfl) dX12_ahead_16 hF (fun M1 r2 hF => ?_)
  exact r_lret (pc := 19) dX12_ahead_19 hF
set_option maxHeartbeats 4000000 in
theorem w_X12_ahead_p128 {X : Option Cx} {G : EG} {res : Mem × Int64} {k89 : Mem → Nat → Int32 → Int32 → Int32 → Int32 → Option (Mem × Int64)} (hk89 : ∀ (M : Mem) (x0 : Nat) (x1 : Int32) (x2 : Int32) (x3 : Int32) (x4 : Int32), k89 M x0 x1 x2 x3 x4 = some res → T X (RJ G res) P_X12_ahead M [(x0, 14)] [(0, .ref x0), (1, .int x1), (2, .int x2), (3, .int x3), (4, .int x4)] [] 89) : ∀ (M : Mem) (x0 : Nat) (x1 : Int32) (x2 : Int32) (x3 : Int32) (x4 : Int32) (y0 : Nat) (y1 : Int32) (y2 : Int32), F_X12_ahead_p128 k89 M x0 x1 x2 x3 x4 y0 y1 y2 = some res → T X (RJ G res) P_X12_ahead M [(x0, 14), (y0, 22)] [(0, .ref x0), (1, .int x1), (2, .int x2), (3, .int x3), (4, .int x4)] [.int y2, .int y1, .ref y0] 128 := by
  intro M x0 x1 x2 x3 x4 y0 y1 y2 hF
  unfold F_X12_ahead_p128 at hF
  refine r_zast (pc := 128) (j := 1) rfl dX12_ahead_128 hF (fun M1 hF => ?_)
  obtain ⟨v2, e9, hF⟩ := bnd_e hF
  refine r_iinc (pc := 129) (w := v2) (k := 4) (L1 := [(4, .int v2), (0, .ref x0), (1, .int x1), (2, .int x2), (3, .int x3)]) dX12_ahead_129 rfl (by rw [e9]; rfl) (by decide) rfl ?_
  clear e9
  refine r_goto (pc := 132) (tgt := 89) dX12_ahead_132 rfl ?_
  exact T.sub (hk89 M1 x0 x1 x2 x3 v2 hF) [0] [1, 2, 3, 4, 0] rfl rfl
set_option maxHeartbeats 4000000 in
theorem w_X12_ahead_p127 {X : Option Cx} {G : EG} {res : Mem × Int64} {k89 : Mem → Nat → Int32 → Int32 → Int32 → Int32 → Option (Mem × Int64)} (hk89 : ∀ (M : Mem) (x0 : Nat) (x1 : Int32) (x2 : Int32) (x3 : Int32) (x4 : Int32), k89 M x0 x1 x2 x3 x4 = some res → T X (RJ G res) P_X12_ahead M [(x0, 14)] [(0, .ref x0), (1, .int x1), (2, .int x2), (3, .int x3), (4, .int x4)] [] 89) : ∀ (M : Mem) (x0 : Nat) (x1 : Int32) (x2 : Int32) (x3 : Int32) (x4 : Int32) (y0 : Nat) (y1 : Int32), F_X12_ahead_p127 k89 M x0 x1 x2 x3 x4 y0 y1 = some res → T X (RJ G res) P_X12_ahead M [(x0, 14), (y0, 22)] [(0, .ref x0), (1, .int x1), (2, .int x2), (3, .int x3), (4, .int x4)] [.int y1, .ref y0] 127 := by
  intro M x0 x1 x2 x3 x4 y0 y1 hF
  unfold F_X12_ahead_p127 at hF
  refine r_iconst (pc := 127) (w := 0) dX12_ahead_127 (by decide) ?_
  exact T.sub ((w_X12_ahead_p128 hk89) M x0 x1 x2 x3 x4 y0 y1 (0 : Int32) hF) [0, 1] [0, 1, 2, 3, 4] rfl rfl
set_option maxHeartbeats 4000000 in
theorem w_X12_ahead_p89 {X : Option Cx} {G : EG} {res : Mem × Int64} {k135 : Mem → Nat → Int32 → Int32 → Option (Mem × Int64)} (hk135 : ∀ (M : Mem) (x0 : Nat) (x1 : Int32) (x3 : Int32), k135 M x0 x1 x3 = some res → T X (RJ G res) P_X12_ahead M [(x0, 14)] [(0, .ref x0), (1, .int x1), (3, .int x3)] [] 135) : ∀ (n : Nat) (M : Mem) (x0 : Nat) (x1 : Int32) (x2 : Int32) (x3 : Int32) (x4 : Int32), F_X12_ahead_p89 k135 n M x0 x1 x2 x3 x4 = some res → T X (RJ G res) P_X12_ahead M [(x0, 14)] [(0, .ref x0), (1, .int x1), (2, .int x2), (3, .int x3), (4, .int x4)] [] 89 := by
  intro n
  induction n with
  | zero =>
    intro M x0 x1 x2 x3 x4 hF
    cases hF
  | succ n ih =>
    intro M x0 x1 x2 x3 x4 hF
    unfold F_X12_ahead_p89 at hF
    refine r_iload (pc := 89) 4 dX12_ahead_89 rfl ?_
    refine r_aload_n (pc := 91) 0 dX12_ahead_91 rfl rfl ?_
    refine gf_X12_154 (pc := 92) (j := 0) rfl dX12_ahead_92 ?_
    refine r_icmp_ge (pc := 95) (tgt := 135) dX12_ahead_95 rfl hF (fun hF => ?_) (fun hF => ?_)
    · exact T.sub (hk135 M x0 x1 x3 hF) [0] [0, 1, 3] rfl rfl
    · refine r_aload_n (pc := 98) 0 dX12_ahead_98 rfl rfl ?_
      refine gf_X12_37 (pc := 99) (j := 0) rfl dX12_ahead_99 ?_
      refine r_lr (by decide) hF (fun b1 hF => ?_)
      refine r_iload (pc := 102) 4 dX12_ahead_102 rfl ?_
      refine r_aload_n (pc := 104) 0 dX12_ahead_104 rfl rfl ?_
      refine gf_X12_37 (pc := 105) (j := 1) rfl dX12_ahead_105 ?_
      refine r_lr (by decide) hF (fun b2 hF => ?_)
      refine r_iload (pc := 108) 4 dX12_ahead_108 rfl ?_
      refine r_zald (pc := 110) (j := 0) rfl dX12_ahead_110 hF (fun hF => ?_)
      refine r_if_eq (pc := 111) (tgt := 127) dX12_ahead_111 rfl hF (fun hF => ?_) (fun hF => ?_)
      · exact T.sub ((w_X12_ahead_p127 ih) M x0 x1 x2 x3 x4 b1 x4 hF) [2, 1] [0, 1, 2, 3, 4] rfl rfl
      · refine r_iload_n (pc := 114) 2 dX12_ahead_114 rfl rfl ?_
        refine r_iload (pc := 115) 4 dX12_ahead_115 rfl ?_
        refine r_ishr (pc := 117) dX12_ahead_117 ?_
        refine r_iconst (pc := 118) (w := 1) dX12_ahead_118 (by decide) ?_
        refine r_iand (pc := 119) dX12_ahead_119 ?_
        refine r_if_ne (pc := 120) (tgt := 127) dX12_ahead_120 rfl hF (fun hF => ?_) (fun hF => ?_)
        · exact T.sub ((w_X12_ahead_p127 ih) M x0 x1 x2 x3 x4 b1 x4 hF) [2, 1] [0, 1, 2, 3, 4] rfl rfl
        · refine r_iconst (pc := 123) (w := 1) dX12_ahead_123 (by decide) ?_
          refine r_goto (pc := 124) (tgt := 128) dX12_ahead_124 rfl ?_
          exact T.sub ((w_X12_ahead_p128 ih) M x0 x1 x2 x3 x4 b1 x4 (1 : Int32) hF) [2, 1] [0, 1, 2, 3, 4] rfl rfl
set_option maxHeartbeats 4000000 in
theorem w_X12_ahead_p199 {X : Option Cx} {G : EG} {res : Mem × Int64} {k159 : Mem → Nat → Int32 → Int32 → Int64 → Int64 → Int32 → Int32 → Option (Mem × Int64)} (hk159 : ∀ (M : Mem) (x0 : Nat) (x1 : Int32) (x3 : Int32) (x4 : Int64) (x6 : Int64) (x8 : Int32) (x9 : Int32), k159 M x0 x1 x3 x4 x6 x8 x9 = some res → T X (RJ G res) P_X12_ahead M [(x0, 14)] [(0, .ref x0), (1, .int x1), (3, .int x3), (4, .long x4), (6, .long x6), (8, .int x8), (9, .int x9)] [] 159) : ∀ (M : Mem) (x0 : Nat) (x1 : Int32) (x3 : Int32) (x4 : Int64) (x6 : Int64) (x8 : Int32) (x9 : Int32), F_X12_ahead_p199 k159 M x0 x1 x3 x4 x6 x8 x9 = some res → T X (RJ G res) P_X12_ahead M [(x0, 14)] [(0, .ref x0), (1, .int x1), (3, .int x3), (4, .long x4), (6, .long x6), (8, .int x8), (9, .int x9)] [] 199 := by
  intro M x0 x1 x3 x4 x6 x8 x9 hF
  unfold F_X12_ahead_p199 at hF
  obtain ⟨v1, e9, hF⟩ := bnd_e hF
  refine r_iinc (pc := 199) (w := v1) (k := 6) (L1 := [(9, .int v1), (0, .ref x0), (1, .int x1), (3, .int x3), (4, .long x4), (6, .long x6), (8, .int x8)]) dX12_ahead_199 rfl (by rw [e9]; rfl) (by decide) rfl ?_
  clear e9
  refine r_goto (pc := 202) (tgt := 159) dX12_ahead_202 rfl ?_
  exact T.sub (hk159 M x0 x1 x3 x4 x6 x8 v1 hF) [0] [1, 2, 3, 4, 5, 6, 0] rfl rfl
set_option maxHeartbeats 4000000 in
theorem w_X12_ahead_p159 {X : Option Cx} {G : EG} {res : Mem × Int64} {k205 : Mem → Nat → Int32 → Int32 → Int64 → Int64 → Int32 → Option (Mem × Int64)} (hk205 : ∀ (M : Mem) (x0 : Nat) (x1 : Int32) (x3 : Int32) (x4 : Int64) (x6 : Int64) (x8 : Int32), k205 M x0 x1 x3 x4 x6 x8 = some res → T X (RJ G res) P_X12_ahead M [(x0, 14)] [(0, .ref x0), (1, .int x1), (3, .int x3), (4, .long x4), (6, .long x6), (8, .int x8)] [] 205) : ∀ (n : Nat) (M : Mem) (x0 : Nat) (x1 : Int32) (x3 : Int32) (x4 : Int64) (x6 : Int64) (x8 : Int32) (x9 : Int32), F_X12_ahead_p159 k205 n M x0 x1 x3 x4 x6 x8 x9 = some res → T X (RJ G res) P_X12_ahead M [(x0, 14)] [(0, .ref x0), (1, .int x1), (3, .int x3), (4, .long x4), (6, .long x6), (8, .int x8), (9, .int x9)] [] 159 := by
  intro n
  induction n with
  | zero =>
    intro M x0 x1 x3 x4 x6 x8 x9 hF
    cases hF
  | succ n ih =>
    intro M x0 x1 x3 x4 x6 x8 x9 hF
    unfold F_X12_ahead_p159 at hF
    refine r_iload (pc := 159) 6 dX12_ahead_159 rfl ?_
    refine r_aload_n (pc := 161) 0 dX12_ahead_161 rfl rfl ?_
    refine gf_X12_154 (pc := 162) (j := 0) rfl dX12_ahead_162 ?_
    refine r_icmp_ge (pc := 165) (tgt := 205) dX12_ahead_165 rfl hF (fun hF => ?_) (fun hF => ?_)
    · exact T.sub (hk205 M x0 x1 x3 x4 x6 x8 hF) [0] [0, 1, 2, 3, 4, 5] rfl rfl
    · refine r_aload_n (pc := 168) 0 dX12_ahead_168 rfl rfl ?_
      refine r_iload (pc := 169) 6 dX12_ahead_169 rfl ?_
      refine r_iconst (pc := 171) (w := 0) dX12_ahead_171 (by decide) ?_
      refine r_callV_J (pc := 172) (Py := P_X12_warmthOf) (n := 2) (As := [.int x9, .int ((0 : Int32))]) (fun q e => k_X12_warmthOf G _ x0 x9 (0 : Int32) q e) (c := 13) (Tb := TX12) (N := 58) rfl (by decide) (j0 := 0) rfl tw_1291 tw_1293 tw_34 tw_70 tw_1294 hd_X12_warmthOf ⟨Nat.le_of_ble_eq_true rfl, Nat.le_of_ble_eq_true rfl⟩ rfl [0] rfl rfl (Nat.le_of_ble_eq_true rfl) dX12_ahead_172 hF (fun M1 r2 hF => ?_)
      refine r_lload (pc := 175) 3 dX12_ahead_175 rfl ?_
      refine r_lcmp (pc := 177) dX12_ahead_177 ?_
      refine r_if_ge (pc := 178) (tgt := 199) dX12_ahead_178 rfl hF (fun hF => ?_) (fun hF => ?_)
      · exact T.sub ((w_X12_ahead_p199 ih) M1 x0 x1 x3 x4 x6 x8 x9 hF) [0] [0, 1, 2, 3, 4, 5, 6] rfl rfl
      · refine r_aload_n (pc := 181) 0 dX12_ahead_181 rfl rfl ?_
        refine r_iload (pc := 182) 6 dX12_ahead_182 rfl ?_
        refine r_iconst (pc := 184) (w := 0) dX12_ahead_184 (by decide) ?_
        refine r_callV_J (pc := 185) (Py := P_X12_warmthOf) (n := 2) (As := [.int x9, .int ((0 : Int32))]) (fun q e => k_X12_warmthOf G _ x0 x9 (0 : Int32) q e) (c := 13) (Tb := TX12) (N := 58) rfl (by decide) (j0 := 0) rfl tw_1291 tw_1293 tw_34 tw_70 tw_1294 hd_X12_warmthOf ⟨Nat.le_of_ble_eq_true rfl, Nat.le_of_ble_eq_true rfl⟩ rfl [0] rfl rfl (Nat.le_of_ble_eq_true rfl) dX12_ahead_185 hF (fun M3 r4 hF => ?_)
        refine r_lstore (pc := 188) (L1 := [(4, .long r4), (0, .ref x0), (1, .int x1), (3, .int x3), (6, .long x6), (8, .int x8), (9, .int x9)]) dX12_ahead_188 (by decide) rfl ?_
        refine r_aload_n (pc := 190) 1 dX12_ahead_190 rfl rfl ?_
        refine gf_X12_167 (pc := 191) (j := 0) rfl dX12_ahead_191 ?_
        refine r_iconst (pc := 194) (w := 1) dX12_ahead_194 (by decide) ?_
        refine r_isub (pc := 195) dX12_ahead_195 ?_
        refine r_i2l (pc := 196) dX12_ahead_196 ?_
        refine r_gJ (pc := 197) hF (fun v5 hF => ?_)
        refine r_lstore (pc := 197) (L1 := [(6, .long v5), (4, .long r4), (0, .ref x0), (1, .int x1), (3, .int x3), (8, .int x8), (9, .int x9)]) dX12_ahead_197 (by decide) rfl ?_
        exact T.sub ((w_X12_ahead_p199 ih) M3 x0 x1 x3 r4 v5 x8 x9 hF) [0] [2, 3, 4, 1, 0, 5, 6] rfl rfl
set_option maxHeartbeats 4000000 in
theorem w_X12_ahead_p205 {X : Option Cx} {G : EG} {res : Mem × Int64} {k146 : Mem → Nat → Int32 → Int32 → Int64 → Int64 → Int32 → Option (Mem × Int64)} (hk146 : ∀ (M : Mem) (x0 : Nat) (x1 : Int32) (x3 : Int32) (x4 : Int64) (x6 : Int64) (x8 : Int32), k146 M x0 x1 x3 x4 x6 x8 = some res → T X (RJ G res) P_X12_ahead M [(x0, 14)] [(0, .ref x0), (1, .int x1), (3, .int x3), (4, .long x4), (6, .long x6), (8, .int x8)] [] 146) : ∀ (M : Mem) (x0 : Nat) (x1 : Int32) (x3 : Int32) (x4 : Int64) (x6 : Int64) (x8 : Int32), F_X12_ahead_p205 k146 M x0 x1 x3 x4 x6 x8 = some res → T X (RJ G res) P_X12_ahead M [(x0, 14)] [(0, .ref x0), (1, .int x1), (3, .int x3), (4, .long x4), (6, .long x6), (8, .int x8)] [] 205 := by
  intro M x0 x1 x3 x4 x6 x8 hF
  unfold F_X12_ahead_p205 at hF
  obtain ⟨v1, e9, hF⟩ := bnd_e hF
  refine r_iinc (pc := 205) (w := v1) (k := 5) (L1 := [(8, .int v1), (0, .ref x0), (1, .int x1), (3, .int x3), (4, .long x4), (6, .long x6)]) dX12_ahead_205 rfl (by rw [e9]; rfl) (by decide) rfl ?_
  clear e9
  refine r_goto (pc := 208) (tgt := 146) dX12_ahead_208 rfl ?_
  exact T.sub (hk146 M x0 x1 x3 x4 x6 v1 hF) [0] [1, 2, 3, 4, 5, 0] rfl rfl
set_option maxHeartbeats 4000000 in
theorem w_X12_ahead_p146 {X : Option Cx} {G : EG} {res : Mem × Int64} {k211 : Mem → Nat → Int32 → Int64 → Int64 → Option (Mem × Int64)} (hk211 : ∀ (M : Mem) (x0 : Nat) (x3 : Int32) (x4 : Int64) (x6 : Int64), k211 M x0 x3 x4 x6 = some res → T X (RJ G res) P_X12_ahead M [(x0, 14)] [(0, .ref x0), (3, .int x3), (4, .long x4), (6, .long x6)] [] 211) : ∀ (n : Nat) (M : Mem) (x0 : Nat) (x1 : Int32) (x3 : Int32) (x4 : Int64) (x6 : Int64) (x8 : Int32), F_X12_ahead_p146 k211 n M x0 x1 x3 x4 x6 x8 = some res → T X (RJ G res) P_X12_ahead M [(x0, 14)] [(0, .ref x0), (1, .int x1), (3, .int x3), (4, .long x4), (6, .long x6), (8, .int x8)] [] 146 := by
  intro n
  induction n with
  | zero =>
    intro M x0 x1 x3 x4 x6 x8 hF
    cases hF
  | succ n ih =>
    intro M x0 x1 x3 x4 x6 x8 hF
    unfold F_X12_ahead_p146 at hF
    refine r_iload (pc := 146) 5 dX12_ahead_146 rfl ?_
    refine r_iload_n (pc := 148) 1 dX12_ahead_148 rfl rfl ?_
    refine r_icmp_ge (pc := 149) (tgt := 211) dX12_ahead_149 rfl hF (fun hF => ?_) (fun hF => ?_)
    · exact T.sub (hk211 M x0 x3 x4 x6 hF) [0] [0, 2, 3, 4] rfl rfl
    · refine r_aload_n (pc := 152) 0 dX12_ahead_152 rfl rfl ?_
      refine r_callV_V (pc := 153) (Py := P_X12_goes) (n := 0) (As := []) (fun q e => k_X12_goes G _ x0 q e) (c := 13) (Tb := TX12) (N := 58) rfl (by decide) (j0 := 0) rfl tw_1270 tw_1272 tw_29 tw_70 tw_1273 hd_X12_goes ⟨Nat.le_of_ble_eq_true rfl, Nat.le_of_ble_eq_true rfl⟩ rfl [0] rfl rfl (Nat.le_of_ble_eq_true rfl) dX12_ahead_153 hF (fun M1 r2 hF => ?_)
      refine r_iconst (pc := 156) (w := 0) dX12_ahead_156 (by decide) ?_
      refine r_istore (pc := 157) (L1 := [(9, .int ((0 : Int32))), (0, .ref x0), (1, .int x1), (3, .int x3), (4, .long x4), (6, .long x6), (8, .int x8)]) dX12_ahead_157 (by decide) rfl ?_
      exact T.sub ((w_X12_ahead_p159 (w_X12_ahead_p205 ih) FU) M1 x0 x1 x3 x4 x6 x8 (0 : Int32) hF) [0] [1, 2, 3, 4, 5, 6, 0] rfl rfl
set_option maxHeartbeats 4000000 in
theorem w_X12_ahead_p251 {X : Option Cx} {G : EG} {res : Mem × Int64} : ∀ (M : Mem) (y0 : Int64), F_X12_ahead_p251 M y0 = some res → T X (RJ G res) P_X12_ahead M [] [] [.long y0] 251 := by
  intro M y0 hF
  unfold F_X12_ahead_p251 at hF
  exact r_lret (pc := 251) dX12_ahead_251 hF
set_option maxHeartbeats 4000000 in
theorem w_X12_ahead_p211 {X : Option Cx} {G : EG} {res : Mem × Int64} : ∀ (M : Mem) (x0 : Nat) (x3 : Int32) (x4 : Int64) (x6 : Int64), F_X12_ahead_p211 M x0 x3 x4 x6 = some res → T X (RJ G res) P_X12_ahead M [(x0, 14)] [(0, .ref x0), (3, .int x3), (4, .long x4), (6, .long x6)] [] 211 := by
  intro M x0 x3 x4 x6 hF
  unfold F_X12_ahead_p211 at hF
  refine r_aload_n (pc := 211) 0 dX12_ahead_211 rfl rfl ?_
  refine gf_X12_48 (pc := 212) (j := 0) rfl dX12_ahead_212 ?_
  refine r_lr (by decide) hF (fun b1 hF => ?_)
  refine r_iconst (pc := 215) (w := 5) dX12_ahead_215 (by decide) ?_
  refine r_lald (pc := 216) (j := 0) rfl dX12_ahead_216 hF (fun hF => ?_)
  refine r_aload_n (pc := 217) 0 dX12_ahead_217 rfl rfl ?_
  refine gf_X12_136 (pc := 218) (j := 1) rfl dX12_ahead_218 ?_
  refine r_lr (by decide) hF (fun b2 hF => ?_)
  refine r_iconst (pc := 221) (w := 5) dX12_ahead_221 (by decide) ?_
  refine r_lald (pc := 222) (j := 0) rfl dX12_ahead_222 hF (fun hF => ?_)
  refine r_lsub (pc := 223) dX12_ahead_223 ?_
  refine r_gJ (pc := 224) hF (fun v3 hF => ?_)
  refine r_lstore (pc := 224) (L1 := [(8, .long v3), (0, .ref x0), (3, .int x3), (4, .long x4), (6, .long x6)]) dX12_ahead_224 (by decide) rfl ?_
  refine r_aload_n (pc := 226) 1 dX12_ahead_226 rfl rfl ?_
  refine r_callV_V (pc := 227) (Py := P_X12_laysBack) (n := 0) (As := []) (fun q e => k_X12_laysBack G _ x0 q e) (c := 13) (Tb := TX12) (N := 58) rfl (by decide) (j0 := 2) rfl tw_1482 tw_1484 tw_53 tw_70 tw_1485 hd_X12_laysBack ⟨Nat.le_of_ble_eq_true rfl, Nat.le_of_ble_eq_true rfl⟩ rfl [2] rfl rfl (Nat.le_of_ble_eq_true rfl) dX12_ahead_227 hF (fun M4 r5 hF => ?_)
  refine r_iload_n (pc := 230) 2 dX12_ahead_230 rfl rfl ?_
  refine r_if_ne (pc := 231) (tgt := 239) dX12_ahead_231 rfl hF (fun hF => ?_) (fun hF => ?_)
  · refine r_iload_n (pc := 239) 2 dX12_ahead_239 rfl rfl ?_
    refine r_iconst (pc := 240) (w := 1) dX12_ahead_240 (by decide) ?_
    refine r_icmp_ne (pc := 241) (tgt := 249) dX12_ahead_241 rfl hF (fun hF => ?_) (fun hF => ?_)
    · refine r_lload (pc := 249) 0 dX12_ahead_249 rfl ?_
      exact T.sub ((w_X12_ahead_p251) M4 v3 hF) [] [] rfl rfl
    · refine r_lload (pc := 244) 4 dX12_ahead_244 rfl ?_
      refine r_goto (pc := 246) (tgt := 251) dX12_ahead_246 rfl ?_
      exact T.sub ((w_X12_ahead_p251) M4 x6 hF) [] [] rfl rfl
  · refine r_lload (pc := 234) 3 dX12_ahead_234 rfl ?_
    refine r_goto (pc := 236) (tgt := 251) dX12_ahead_236 rfl ?_
    exact T.sub ((w_X12_ahead_p251) M4 x4 hF) [] [] rfl rfl
set_option maxHeartbeats 4000000 in
theorem w_X12_ahead_p135 {X : Option Cx} {G : EG} {res : Mem × Int64} : ∀ (M : Mem) (x0 : Nat) (x1 : Int32) (x3 : Int32), F_X12_ahead_p135 M x0 x1 x3 = some res → T X (RJ G res) P_X12_ahead M [(x0, 14)] [(0, .ref x0), (1, .int x1), (3, .int x3)] [] 135 := by
  intro M x0 x1 x3 hF
  unfold F_X12_ahead_p135 at hF
  refine r_ldc2 (pc := 135) (w := 9223372036854775807) tw_1481 dX12_ahead_135 ?_
  refine r_lstore (pc := 138) (L1 := [(4, .long ((9223372036854775807 : Int64))), (0, .ref x0), (1, .int x1), (3, .int x3)]) dX12_ahead_138 (by decide) rfl ?_
  refine r_lconst (pc := 140) (w := 0) dX12_ahead_140 (by decide) ?_
  refine r_lstore (pc := 141) (L1 := [(6, .long ((0 : Int64))), (4, .long ((9223372036854775807 : Int64))), (0, .ref x0), (1, .int x1), (3, .int x3)]) dX12_ahead_141 (by decide) rfl ?_
  refine r_iconst (pc := 143) (w := 0) dX12_ahead_143 (by decide) ?_
  refine r_istore (pc := 144) (L1 := [(8, .int ((0 : Int32))), (6, .long ((0 : Int64))), (4, .long ((9223372036854775807 : Int64))), (0, .ref x0), (1, .int x1), (3, .int x3)]) dX12_ahead_144 (by decide) rfl ?_
  exact T.sub ((w_X12_ahead_p146 (w_X12_ahead_p211) FU) M x0 x1 x3 (9223372036854775807 : Int64) (0 : Int64) (0 : Int32) hF) [0] [3, 4, 5, 2, 1, 0] rfl rfl
set_option maxHeartbeats 4000000 in
theorem w_X12_ahead_p82 {X : Option Cx} {G : EG} {res : Mem × Int64} : ∀ (M : Mem) (x0 : Nat) (x1 : Int32) (x2 : Int32) (x3 : Int32), F_X12_ahead_p82 M x0 x1 x2 x3 = some res → T X (RJ G res) P_X12_ahead M [(x0, 14)] [(0, .ref x0), (1, .int x1), (2, .int x2), (3, .int x3)] [] 82 := by
  intro M x0 x1 x2 x3 hF
  unfold F_X12_ahead_p82 at hF
  refine r_aload_n (pc := 82) 0 dX12_ahead_82 rfl rfl ?_
  refine r_callV_V (pc := 83) (Py := P_X12_keeps) (n := 0) (As := []) (fun q e => k_X12_keeps G _ x0 q e) (c := 13) (Tb := TX12) (N := 58) rfl (by decide) (j0 := 0) rfl tw_1477 tw_1479 tw_52 tw_70 tw_1480 hd_X12_keeps ⟨Nat.le_of_ble_eq_true rfl, Nat.le_of_ble_eq_true rfl⟩ rfl [0] rfl rfl (Nat.le_of_ble_eq_true rfl) dX12_ahead_83 hF (fun M1 r2 hF => ?_)
  refine r_iconst (pc := 86) (w := 0) dX12_ahead_86 (by decide) ?_
  refine r_istore (pc := 87) (L1 := [(4, .int ((0 : Int32))), (0, .ref x0), (1, .int x1), (2, .int x2), (3, .int x3)]) dX12_ahead_87 (by decide) rfl ?_
  exact T.sub ((w_X12_ahead_p89 (w_X12_ahead_p135) FU) M1 x0 x1 x2 x3 (0 : Int32) hF) [0] [1, 2, 3, 4, 0] rfl rfl
set_option maxHeartbeats 4000000 in
theorem w_X12_ahead {X : Option Cx} {G : EG} {res : Mem × Int64} (M : Mem) (a0 : Nat) (a1 : Int32) (a2 : Int32) (a3 : Int32) (hF : F_X12_ahead M a0 a1 a2 a3 = some res) : T X (RJ G res) P_X12_ahead M [(a0, 14)] [(0, .ref a0), (1, .int a1), (2, .int a2), (3, .int a3)] [] 0 := by
  unfold F_X12_ahead at hF
  refine r_iload_n (pc := 0) 2 dX12_ahead_0 rfl rfl ?_
  refine r_if_lt (pc := 1) (tgt := 14) dX12_ahead_1 rfl hF (fun hF => ?_) (fun hF => ?_)
  · exact T.sub ((w_X12_ahead_p14) M a0 hF) [0] [0] rfl rfl
  · refine r_iload_n (pc := 4) 2 dX12_ahead_4 rfl rfl ?_
    refine r_iconst (pc := 5) (w := 1) dX12_ahead_5 (by decide) ?_
    refine r_aload_n (pc := 6) 0 dX12_ahead_6 rfl rfl ?_
    refine gf_X12_154 (pc := 7) (j := 0) rfl dX12_ahead_7 ?_
    refine r_ishl (pc := 10) dX12_ahead_10 ?_
    refine r_icmp_lt (pc := 11) (tgt := 20) dX12_ahead_11 rfl hF (fun hF => ?_) (fun hF => ?_)
    · refine r_iload_n (pc := 20) 3 dX12_ahead_20 rfl rfl ?_
      refine r_i2l (pc := 21) dX12_ahead_21 ?_
      refine r_lconst (pc := 22) (w := 0) dX12_ahead_22 (by decide) ?_
      refine r_ldc2 (pc := 23) (w := 2) tw_1290 dX12_ahead_23 ?_
      refine r_callS_I (pc := 26) (Py := P_X12_in) (n := 3) (As := [.long (a3.toInt64), .long ((0 : Int64)), .long ((2 : Int64))]) (fun q e => k_X12_in G _ (a3.toInt64) (0 : Int64) (2 : Int64) q e) tw_1342 tw_1343 tw_70 tw_1344 hd_X12_in ⟨Nat.le_of_ble_eq_true rfl, Nat.le_of_ble_eq_true rfl⟩ rfl [] rfl rfl (Nat.le_of_ble_eq_true rfl) dX12_ahead_26 hF (fun M1 r2 hF => ?_)
      refine r_if_ne (pc := 29) (tgt := 39) dX12_ahead_29 rfl hF (fun hF => ?_) (fun hF => ?_)
      · refine r_aload_n (pc := 39) 0 dX12_ahead_39 rfl rfl ?_
        refine r_iload_n (pc := 40) 1 dX12_ahead_40 rfl rfl ?_
        refine r_sipush (pc := 41) (w := 500) dX12_ahead_41 (by decide) ?_
        refine r_callV_I (pc := 44) (Py := P_X12_bars) (n := 2) (As := [.int a1, .int ((500 : Int32))]) (fun q e => k_X12_bars G _ a0 a1 (500 : Int32) q e) (c := 13) (Tb := TX12) (N := 58) rfl (by decide) (j0 := 0) rfl tw_1473 tw_1475 tw_51 tw_70 tw_1476 hd_X12_bars ⟨Nat.le_of_ble_eq_true rfl, Nat.le_of_ble_eq_true rfl⟩ rfl [0] rfl rfl (Nat.le_of_ble_eq_true rfl) dX12_ahead_44 hF (fun M3 r4 hF => ?_)
        refine r_if_eq (pc := 47) (tgt := 63) dX12_ahead_47 rfl hF (fun hF => ?_) (fun hF => ?_)
        · refine r_aload_n (pc := 63) 0 dX12_ahead_63 rfl rfl ?_
          refine gf_X12_154 (pc := 64) (j := 0) rfl dX12_ahead_64 ?_
          refine r_if_ne (pc := 67) (tgt := 82) dX12_ahead_67 rfl hF (fun hF => ?_) (fun hF => ?_)
          · exact T.sub ((w_X12_ahead_p82) M3 a0 a1 a2 a3 hF) [0] [0, 1, 2, 3] rfl rfl
          · refine r_iload_n (pc := 70) 3 dX12_ahead_70 rfl rfl ?_
            refine r_iconst (pc := 71) (w := 2) dX12_ahead_71 (by decide) ?_
            refine r_icmp_ge (pc := 72) (tgt := 82) dX12_ahead_72 rfl hF (fun hF => ?_) (fun hF => ?_)
            · exact T.sub ((w_X12_ahead_p82) M3 a0 a1 a2 a3 hF) [0] [0, 1, 2, 3] rfl rfl
            · refine r_aload_n (pc := 75) 0 dX12_ahead_75 rfl rfl ?_
              refine r_bipush (pc := 76) (w := -3) dX12_ahead_76 (by decide) ?_
              refine r_callV_J (pc := 78) (Py := P_X12_refuseLong) (n := 1) (As := [.int ((-3 : Int32))]) (fun q e => k_X12_refuseLong G _ a0 (-3 : Int32) q e) (c := 13) (Tb := TX12) (N := 58) rfl (by decide) (j0 := 0) rfl tw_1361 tw_1363 tw_43 tw_70 tw_1364 hd_X12_refuseLong ⟨Nat.le_of_ble_eq_true rfl, Nat.le_of_ble_eq_true rfl⟩ rfl [0] rfl rfl (Nat.le_of_ble_eq_true rfl) dX12_ahead_78 hF (fun M5 r6 hF => ?_)
              exact r_lret (pc := 81) dX12_ahead_81 hF
        · refine r_aload_n (pc := 50) 0 dX12_ahead_50 rfl rfl ?_
          refine r_aload_n (pc := 51) 0 dX12_ahead_51 rfl rfl ?_
          refine r_iload_n (pc := 52) 1 dX12_ahead_52 rfl rfl ?_
          refine r_sipush (pc := 53) (w := 500) dX12_ahead_53 (by decide) ?_
          refine r_callV_I (pc := 56) (Py := P_X12_bars) (n := 2) (As := [.int a1, .int ((500 : Int32))]) (fun q e => k_X12_bars G _ a0 a1 (500 : Int32) q e) (c := 13) (Tb := TX12) (N := 58) rfl (by decide) (j0 := 0) rfl tw_1473 tw_1475 tw_51 tw_70 tw_1476 hd_X12_bars ⟨Nat.le_of_ble_eq_true rfl, Nat.le_of_ble_eq_true rfl⟩ rfl [0] rfl rfl (Nat.le_of_ble_eq_true rfl) dX12_ahead_56 hF (fun M7 r8 hF => ?_)
          refine r_callV_J (pc := 59) (Py := P_X12_refuseLong) (n := 1) (As := [.int r8]) (fun q e => k_X12_refuseLong G _ a0 r8 q e) (c := 13) (Tb := TX12) (N := 58) rfl (by decide) (j0 := 0) rfl tw_1361 tw_1363 tw_43 tw_70 tw_1364 hd_X12_refuseLong ⟨Nat.le_of_ble_eq_true rfl, Nat.le_of_ble_eq_true rfl⟩ rfl [0] rfl rfl (Nat.le_of_ble_eq_true rfl) dX12_ahead_59 hF (fun M9 r10 hF => ?_)
          exact r_lret (pc := 62) dX12_ahead_62 hF
      · refine r_aload_n (pc := 32) 0 dX12_ahead_32 rfl rfl ?_
        refine r_bipush (pc := 33) (w := -2) dX12_ahead_33 (by decide) ?_
        refine r_callV_J (pc := 35) (Py := P_X12_refuseLong) (n := 1) (As := [.int ((-2 : Int32))]) (fun q e => k_X12_refuseLong G _ a0 (-2 : Int32) q e) (c := 13) (Tb := TX12) (N := 58) rfl (by decide) (j0 := 0) rfl tw_1361 tw_1363 tw_43 tw_70 tw_1364 hd_X12_refuseLong ⟨Nat.le_of_ble_eq_true rfl, Nat.le_of_ble_eq_true rfl⟩ rfl [0] rfl rfl (Nat.le_of_ble_eq_true rfl) dX12_ahead_35 hF (fun M11 r12 hF => ?_)
        exact r_lret (pc := 38) dX12_ahead_38 hF
    · exact T.sub ((w_X12_ahead_p14) M a0 hF) [0] [0] rfl rfl
theorem k_X12_ahead (G : EG) (M : Mem) (a0 : Nat) (a1 : Int32) (a2 : Int32) (a3 : Int32) (q : Mem × Int64) (h : F_X12_ahead M a0 a1 a2 a3 = some q) : Kt yX12_ahead P_X12_ahead M [(a0, 14)] [.ref a0, .int a1, .int a2, .int a3] (RJ G q) := Kt.of (by decide +kernel) rfl (Nat.le_of_ble_eq_true rfl) rfl (fun X hz => w_X12_ahead M a0 a1 a2 a3 h)
set_option maxHeartbeats 4000000 in
theorem w_X12_barred_p40 {X : Option Cx} {G : EG} {res : Mem × Int32} : ∀ (M : Mem) (y0 : Int32), F_X12_barred_p40 M y0 = some res → T X (RI G res) P_X12_barred M [] [] [.int y0] 40 := by
  intro M y0 hF
  unfold F_X12_barred_p40 at hF
  exact r_iret (pc := 40) dX12_barred_40 hF
set_option maxHeartbeats 4000000 in
theorem w_X12_barred {X : Option Cx} {G : EG} {res : Mem × Int32} (M : Mem) (a0 : Nat) (a1 : Int32) (a2 : Int32) (a3 : Int32) (hF : F_X12_barred M a0 a1 a2 a3 = some res) : T X (RI G res) P_X12_barred M [(a0, 14)] [(0, .ref a0), (1, .int a1), (2, .int a2), (3, .int a3)] [] 0 := by
  unfold F_X12_barred at hF
  refine r_iload_n (pc := 0) 1 dX12_barred_0 rfl rfl ?_
  refine r_if_ge (pc := 1) (tgt := 9) dX12_barred_1 rfl hF (fun hF => ?_) (fun hF => ?_)
  · refine r_iload_n (pc := 9) 1 dX12_barred_9 rfl rfl ?_
    refine r_bipush (pc := 10) (w := 23) dX12_barred_10 (by decide) ?_
    refine r_icmp_le (pc := 12) (tgt := 20) dX12_barred_12 rfl hF (fun hF => ?_) (fun hF => ?_)
    · refine r_iload_n (pc := 20) 2 dX12_barred_20 rfl rfl ?_
      refine r_if_ge (pc := 21) (tgt := 29) dX12_barred_21 rfl hF (fun hF => ?_) (fun hF => ?_)
      · refine r_iload_n (pc := 29) 2 dX12_barred_29 rfl rfl ?_
        refine r_iload_n (pc := 30) 3 dX12_barred_30 rfl rfl ?_
        refine r_icmp_le (pc := 31) (tgt := 39) dX12_barred_31 rfl hF (fun hF => ?_) (fun hF => ?_)
        · refine r_iconst (pc := 39) (w := 0) dX12_barred_39 (by decide) ?_
          exact T.sub ((w_X12_barred_p40) M (0 : Int32) hF) [] [] rfl rfl
        · refine r_bipush (pc := 34) (w := -6) dX12_barred_34 (by decide) ?_
          refine r_goto (pc := 36) (tgt := 40) dX12_barred_36 rfl ?_
          exact T.sub ((w_X12_barred_p40) M (-6 : Int32) hF) [] [] rfl rfl
      · refine r_bipush (pc := 24) (w := -4) dX12_barred_24 (by decide) ?_
        refine r_goto (pc := 26) (tgt := 40) dX12_barred_26 rfl ?_
        exact T.sub ((w_X12_barred_p40) M (-4 : Int32) hF) [] [] rfl rfl
    · refine r_bipush (pc := 15) (w := -6) dX12_barred_15 (by decide) ?_
      refine r_goto (pc := 17) (tgt := 40) dX12_barred_17 rfl ?_
      exact T.sub ((w_X12_barred_p40) M (-6 : Int32) hF) [] [] rfl rfl
  · refine r_bipush (pc := 4) (w := -4) dX12_barred_4 (by decide) ?_
    refine r_goto (pc := 6) (tgt := 40) dX12_barred_6 rfl ?_
    exact T.sub ((w_X12_barred_p40) M (-4 : Int32) hF) [] [] rfl rfl
theorem k_X12_barred (G : EG) (M : Mem) (a0 : Nat) (a1 : Int32) (a2 : Int32) (a3 : Int32) (q : Mem × Int32) (h : F_X12_barred M a0 a1 a2 a3 = some q) : Kt yX12_barred P_X12_barred M [(a0, 14)] [.ref a0, .int a1, .int a2, .int a3] (RI G q) := Kt.of (by decide +kernel) rfl (Nat.le_of_ble_eq_true rfl) rfl (fun X hz => w_X12_barred M a0 a1 a2 a3 h)
set_option maxHeartbeats 4000000 in
theorem w_X12_boughtIn {X : Option Cx} {G : EG} {res : Mem × Int64} (M : Mem) (a0 : Nat) (a1 : Int32) (a2 : Int32) (hF : F_X12_boughtIn M a0 a1 a2 = some res) : T X (RJ G res) P_X12_boughtIn M [(a0, 14)] [(0, .ref a0), (1, .int a1), (2, .int a2)] [] 0 := by
  unfold F_X12_boughtIn at hF
  refine r_aload_n (pc := 0) 0 dX12_boughtIn_0 rfl rfl ?_
  refine r_aload_n (pc := 1) 0 dX12_boughtIn_1 rfl rfl ?_
  refine gf_X12_167 (pc := 2) (j := 0) rfl dX12_boughtIn_2 ?_
  refine r_iload_n (pc := 5) 1 dX12_boughtIn_5 rfl rfl ?_
  refine r_iadd (pc := 6) dX12_boughtIn_6 ?_
  refine r_callV_J (pc := 7) (Py := P_X12_needOf) (n := 1) (As := [.int ((gI M 1301 a0) + a1)]) (fun q e => k_X12_needOf G _ a0 ((gI M 1301 a0) + a1) q e) (c := 13) (Tb := TX12) (N := 58) rfl (by decide) (j0 := 0) rfl tw_1282 tw_1284 tw_32 tw_70 tw_1285 hd_X12_needOf ⟨Nat.le_of_ble_eq_true rfl, Nat.le_of_ble_eq_true rfl⟩ rfl [0] rfl rfl (Nat.le_of_ble_eq_true rfl) dX12_boughtIn_7 hF (fun M1 r2 hF => ?_)
  refine r_iload_n (pc := 10) 2 dX12_boughtIn_10 rfl rfl ?_
  refine r_i2l (pc := 11) dX12_boughtIn_11 ?_
  refine r_aload_n (pc := 12) 0 dX12_boughtIn_12 rfl rfl ?_
  refine gf_X12_93 (pc := 13) (j := 0) rfl dX12_boughtIn_13 ?_
  refine r_i2l (pc := 16) dX12_boughtIn_16 ?_
  refine r_lmul (pc := 17) dX12_boughtIn_17 ?_
  refine r_ladd (pc := 18) dX12_boughtIn_18 ?_
  exact r_lret (pc := 19) dX12_boughtIn_19 hF
theorem k_X12_boughtIn (G : EG) (M : Mem) (a0 : Nat) (a1 : Int32) (a2 : Int32) (q : Mem × Int64) (h : F_X12_boughtIn M a0 a1 a2 = some q) : Kt yX12_boughtIn P_X12_boughtIn M [(a0, 14)] [.ref a0, .int a1, .int a2] (RJ G q) := Kt.of (by decide +kernel) rfl (Nat.le_of_ble_eq_true rfl) rfl (fun X hz => w_X12_boughtIn M a0 a1 a2 h)
set_option maxHeartbeats 4000000 in
theorem w_X12_costIn {X : Option Cx} {G : EG} {res : Mem × Int64} (M : Mem) (a0 : Nat) (a1 : Int32) (a2 : Int32) (hF : F_X12_costIn M a0 a1 a2 = some res) : T X (RJ G res) P_X12_costIn M [(a0, 14)] [(0, .ref a0), (1, .int a1), (2, .int a2)] [] 0 := by
  unfold F_X12_costIn at hF
  refine r_aload_n (pc := 0) 0 dX12_costIn_0 rfl rfl ?_
  refine r_iload_n (pc := 1) 1 dX12_costIn_1 rfl rfl ?_
  refine r_iload_n (pc := 2) 2 dX12_costIn_2 rfl rfl ?_
  refine r_callV_J (pc := 3) (Py := P_X12_boughtIn) (n := 2) (As := [.int a1, .int a2]) (fun q e => k_X12_boughtIn G _ a0 a1 a2 q e) (c := 13) (Tb := TX12) (N := 58) rfl (by decide) (j0 := 0) rfl tw_1518 tw_1520 tw_57 tw_70 tw_1521 hd_X12_boughtIn ⟨Nat.le_of_ble_eq_true rfl, Nat.le_of_ble_eq_true rfl⟩ rfl [0] rfl rfl (Nat.le_of_ble_eq_true rfl) dX12_costIn_3 hF (fun M1 r2 hF => ?_)
  refine r_aload_n (pc := 6) 0 dX12_costIn_6 rfl rfl ?_
  refine gf_X12_72 (pc := 7) (j := 0) rfl dX12_costIn_7 ?_
  refine r_lr (by decide) hF (fun b3 hF => ?_)
  refine r_aload_n (pc := 10) 0 dX12_costIn_10 rfl rfl ?_
  refine gf_X12_167 (pc := 11) (j := 1) rfl dX12_costIn_11 ?_
  refine r_iload_n (pc := 14) 1 dX12_costIn_14 rfl rfl ?_
  refine r_iadd (pc := 15) dX12_costIn_15 ?_
  refine r_bipush (pc := 16) (w := 24) dX12_costIn_16 (by decide) ?_
  refine r_iremc (pc := 18) dX12_costIn_18 (by decide) ?_
  refine r_iald (pc := 19) (j := 0) rfl dX12_costIn_19 hF (fun hF => ?_)
  refine r_i2l (pc := 20) dX12_costIn_20 ?_
  refine r_lmul (pc := 21) dX12_costIn_21 ?_
  refine r_ldc2 (pc := 22) (w := 100) tw_1317 dX12_costIn_22 ?_
  refine r_ldivc (pc := 25) dX12_costIn_25 (by decide) ?_
  exact r_lret (pc := 26) dX12_costIn_26 hF
theorem k_X12_costIn (G : EG) (M : Mem) (a0 : Nat) (a1 : Int32) (a2 : Int32) (q : Mem × Int64) (h : F_X12_costIn M a0 a1 a2 = some q) : Kt yX12_costIn P_X12_costIn M [(a0, 14)] [.ref a0, .int a1, .int a2] (RJ G q) := Kt.of (by decide +kernel) rfl (Nat.le_of_ble_eq_true rfl) rfl (fun X hz => w_X12_costIn M a0 a1 a2 h)
set_option maxHeartbeats 4000000 in
theorem w_X12_mayBe_p32 {X : Option Cx} {G : EG} {res : Mem × Int32} : ∀ (M : Mem) (y0 : Int32), F_X12_mayBe_p32 M y0 = some res → T X (RI G res) P_X12_mayBe M [] [] [.int y0] 32 := by
  intro M y0 hF
  unfold F_X12_mayBe_p32 at hF
  exact r_zret (pc := 32) dX12_mayBe_32 hF
set_option maxHeartbeats 4000000 in
theorem w_X12_mayBe_p31 {X : Option Cx} {G : EG} {res : Mem × Int32} : ∀ (M : Mem), F_X12_mayBe_p31 M = some res → T X (RI G res) P_X12_mayBe M [] [] [] 31 := by
  intro M hF
  unfold F_X12_mayBe_p31 at hF
  refine r_iconst (pc := 31) (w := 0) dX12_mayBe_31 (by decide) ?_
  exact T.sub ((w_X12_mayBe_p32) M (0 : Int32) hF) [] [] rfl rfl
set_option maxHeartbeats 4000000 in
theorem w_X12_mayBe {X : Option Cx} {G : EG} {res : Mem × Int32} (M : Mem) (a0 : Nat) (a1 : Int32) (a2 : Int32) (a3 : Int32) (hF : F_X12_mayBe M a0 a1 a2 a3 = some res) : T X (RI G res) P_X12_mayBe M [(a0, 14)] [(0, .ref a0), (1, .int a1), (2, .int a2), (3, .int a3)] [] 0 := by
  unfold F_X12_mayBe at hF
  refine r_iload_n (pc := 0) 2 dX12_mayBe_0 rfl rfl ?_
  refine r_iload_n (pc := 1) 3 dX12_mayBe_1 rfl rfl ?_
  refine r_iadd (pc := 2) dX12_mayBe_2 ?_
  refine r_i2l (pc := 3) dX12_mayBe_3 ?_
  refine r_lconst (pc := 4) (w := 0) dX12_mayBe_4 (by decide) ?_
  refine r_aload_n (pc := 5) 0 dX12_mayBe_5 rfl rfl ?_
  refine gf_X12_324 (pc := 6) (j := 0) rfl dX12_mayBe_6 ?_
  refine r_i2l (pc := 9) dX12_mayBe_9 ?_
  refine r_callS_I (pc := 10) (Py := P_X12_in) (n := 3) (As := [.long ((a2 + a3).toInt64), .long ((0 : Int64)), .long ((gI M 1334 a0).toInt64)]) (fun q e => k_X12_in G _ ((a2 + a3).toInt64) (0 : Int64) ((gI M 1334 a0).toInt64) q e) tw_1342 tw_1343 tw_70 tw_1344 hd_X12_in ⟨Nat.le_of_ble_eq_true rfl, Nat.le_of_ble_eq_true rfl⟩ rfl [] rfl rfl (Nat.le_of_ble_eq_true rfl) dX12_mayBe_10 hF (fun M1 r2 hF => ?_)
  refine r_if_eq (pc := 13) (tgt := 31) dX12_mayBe_13 rfl hF (fun hF => ?_) (fun hF => ?_)
  · exact T.sub ((w_X12_mayBe_p31) M1 hF) [] [] rfl rfl
  · refine r_aload_n (pc := 16) 0 dX12_mayBe_16 rfl rfl ?_
    refine r_iload_n (pc := 17) 1 dX12_mayBe_17 rfl rfl ?_
    refine r_iload_n (pc := 18) 3 dX12_mayBe_18 rfl rfl ?_
    refine r_callV_J (pc := 19) (Py := P_X12_boughtIn) (n := 2) (As := [.int a1, .int a3]) (fun q e => k_X12_boughtIn G _ a0 a1 a3 q e) (c := 13) (Tb := TX12) (N := 58) rfl (by decide) (j0 := 0) rfl tw_1518 tw_1520 tw_57 tw_70 tw_1521 hd_X12_boughtIn ⟨Nat.le_of_ble_eq_true rfl, Nat.le_of_ble_eq_true rfl⟩ rfl [0] rfl rfl (Nat.le_of_ble_eq_true rfl) dX12_mayBe_19 hF (fun M3 r4 hF => ?_)
    refine r_lconst (pc := 22) (w := 0) dX12_mayBe_22 (by decide) ?_
    refine r_lcmp (pc := 23) dX12_mayBe_23 ?_
    refine r_if_lt (pc := 24) (tgt := 31) dX12_mayBe_24 rfl hF (fun hF => ?_) (fun hF => ?_)
    · exact T.sub ((w_X12_mayBe_p31) M3 hF) [] [] rfl rfl
    · refine r_iconst (pc := 27) (w := 1) dX12_mayBe_27 (by decide) ?_
      refine r_goto (pc := 28) (tgt := 32) dX12_mayBe_28 rfl ?_
      exact T.sub ((w_X12_mayBe_p32) M3 (1 : Int32) hF) [] [] rfl rfl
theorem k_X12_mayBe (G : EG) (M : Mem) (a0 : Nat) (a1 : Int32) (a2 : Int32) (a3 : Int32) (q : Mem × Int32) (h : F_X12_mayBe M a0 a1 a2 a3 = some q) : Kt yX12_mayBe P_X12_mayBe M [(a0, 14)] [.ref a0, .int a1, .int a2, .int a3] (RI G q) := Kt.of (by decide +kernel) rfl (Nat.le_of_ble_eq_true rfl) rfl (fun X hz => w_X12_mayBe M a0 a1 a2 a3 h)
set_option maxHeartbeats 4000000 in
theorem w_X12_plans_p2 {X : Option Cx} {G : EG} {res : Mem × Unit} {k25 : Mem → Nat → Option (Mem × Unit)} (hk25 : ∀ (M : Mem) (x0 : Nat), k25 M x0 = some res → T X (RV G res) P_X12_plans M [(x0, 14)] [(0, .ref x0)] [] 25) : ∀ (n : Nat) (M : Mem) (x0 : Nat) (x1 : Int32), F_X12_plans_p2 k25 n M x0 x1 = some res → T X (RV G res) P_X12_plans M [(x0, 14)] [(0, .ref x0), (1, .int x1)] [] 2 := by
  intro n
  induction n with
  | zero =>
    intro M x0 x1 hF
    cases hF
  | succ n ih =>
    intro M x0 x1 hF
    unfold F_X12_plans_p2 at hF
    refine r_iload_n (pc := 2) 1 dX12_plans_2 rfl rfl ?_
    refine r_bipush (pc := 3) (w := 10) dX12_plans_3 (by decide) ?_
    refine r_icmp_ge (pc := 5) (tgt := 25) dX12_plans_5 rfl hF (fun hF => ?_) (fun hF => ?_)
    · exact T.sub (hk25 M x0 hF) [0] [0] rfl rfl
    · refine r_aload_n (pc := 8) 0 dX12_plans_8 rfl rfl ?_
      refine gf_X12_142 (pc := 9) (j := 0) rfl dX12_plans_9 ?_
      refine r_lr (by decide) hF (fun b1 hF => ?_)
      refine r_sipush (pc := 12) (w := 240) dX12_plans_12 (by decide) ?_
      refine r_iload_n (pc := 15) 1 dX12_plans_15 rfl rfl ?_
      refine r_iadd (pc := 16) dX12_plans_16 ?_
      refine r_lconst (pc := 17) (w := 0) dX12_plans_17 (by decide) ?_
      refine r_last (pc := 18) (j := 0) rfl dX12_plans_18 hF (fun M2 hF => ?_)
      obtain ⟨v3, e9, hF⟩ := bnd_e hF
      refine r_iinc (pc := 19) (w := v3) (k := 1) (L1 := [(1, .int v3), (0, .ref x0)]) dX12_plans_19 rfl (by rw [e9]; rfl) (by decide) rfl ?_
      clear e9
      refine r_goto (pc := 22) (tgt := 2) dX12_plans_22 rfl ?_
      exact T.sub (ih M2 x0 v3 hF) [1] [1, 0] rfl rfl
set_option maxHeartbeats 4000000 in
theorem w_X12_plans_p112 {X : Option Cx} {G : EG} {res : Mem × Unit} {k50 : Mem → Nat → Int32 → Int32 → Int64 → Int32 → Option (Mem × Unit)} (hk50 : ∀ (M : Mem) (x0 : Nat) (x1 : Int32) (x2 : Int32) (x3 : Int64) (x5 : Int32), k50 M x0 x1 x2 x3 x5 = some res → T X (RV G res) P_X12_plans M [(x0, 14)] [(0, .ref x0), (1, .int x1), (2, .int x2), (3, .long x3), (5, .int x5)] [] 50) : ∀ (M : Mem) (x0 : Nat) (x1 : Int32) (x2 : Int32) (x5 : Int32) (y0 : Int64), F_X12_plans_p112 k50 M x0 x1 x2 x5 y0 = some res → T X (RV G res) P_X12_plans M [(x0, 14)] [(0, .ref x0), (1, .int x1), (2, .int x2), (5, .int x5)] [.long y0] 112 := by
  intro M x0 x1 x2 x5 y0 hF
  unfold F_X12_plans_p112 at hF
  refine r_lstore_n (pc := 112) (L1 := [(3, .long y0), (0, .ref x0), (1, .int x1), (2, .int x2), (5, .int x5)]) dX12_plans_112 rfl (by decide) rfl ?_
  obtain ⟨v1, e9, hF⟩ := bnd_e hF
  refine r_iinc (pc := 113) (w := v1) (k := 4) (L1 := [(5, .int v1), (3, .long y0), (0, .ref x0), (1, .int x1), (2, .int x2)]) dX12_plans_113 rfl (by rw [e9]; rfl) (by decide) rfl ?_
  clear e9
  refine r_goto (pc := 116) (tgt := 50) dX12_plans_116 rfl ?_
  exact T.sub (hk50 M x0 x1 x2 y0 v1 hF) [0] [2, 3, 4, 1, 0] rfl rfl
set_option maxHeartbeats 4000000 in
theorem w_X12_plans_p97 {X : Option Cx} {G : EG} {res : Mem × Unit} {k50 : Mem → Nat → Int32 → Int32 → Int64 → Int32 → Option (Mem × Unit)} (hk50 : ∀ (M : Mem) (x0 : Nat) (x1 : Int32) (x2 : Int32) (x3 : Int64) (x5 : Int32), k50 M x0 x1 x2 x3 x5 = some res → T X (RV G res) P_X12_plans M [(x0, 14)] [(0, .ref x0), (1, .int x1), (2, .int x2), (3, .long x3), (5, .int x5)] [] 50) : ∀ (M : Mem) (x0 : Nat) (x1 : Int32) (x2 : Int32) (x3 : Int64) (x5 : Int32) (y0 : Int64), F_X12_plans_p97 k50 M x0 x1 x2 x3 x5 y0 = some res → T X (RV G res) P_X12_plans M [(x0, 14)] [(0, .ref x0), (1, .int x1), (2, .int x2), (3, .long x3), (5, .int x5)] [.long y0] 97 := by
  intro M x0 x1 x2 x3 x5 y0 hF
  unfold F_X12_plans_p97 at hF
  refine r_lstore (pc := 97) (L1 := [(6, .long y0), (0, .ref x0), (1, .int x1), (2, .int x2), (3, .long x3), (5, .int x5)]) dX12_plans_97 (by decide) rfl ?_
  refine r_lload (pc := 99) 0 dX12_plans_99 rfl ?_
  refine r_lload_n (pc := 101) 4 dX12_plans_101 rfl rfl ?_
  refine r_lcmp (pc := 102) dX12_plans_102 ?_
  refine r_if_ge (pc := 103) (tgt := 111) dX12_plans_103 rfl hF (fun hF => ?_) (fun hF => ?_)
  · refine r_lload_n (pc := 111) 4 dX12_plans_111 rfl rfl ?_
    exact T.sub ((w_X12_plans_p112 hk50) M x0 x1 x2 x5 x3 hF) [0] [1, 2, 3, 5] rfl rfl
  · refine r_lload (pc := 106) 0 dX12_plans_106 rfl ?_
    refine r_goto (pc := 108) (tgt := 112) dX12_plans_108 rfl ?_
    exact T.sub ((w_X12_plans_p112 hk50) M x0 x1 x2 x5 y0 hF) [0] [1, 2, 3, 5] rfl rfl
set_option maxHeartbeats 4000000 in
theorem w_X12_plans_p50 {X : Option Cx} {G : EG} {res : Mem × Unit} {k119 : Mem → Nat → Int32 → Int32 → Int64 → Option (Mem × Unit)} (hk119 : ∀ (M : Mem) (x0 : Nat) (x1 : Int32) (x2 : Int32) (x3 : Int64), k119 M x0 x1 x2 x3 = some res → T X (RV G res) P_X12_plans M [(x0, 14)] [(0, .ref x0), (1, .int x1), (2, .int x2), (3, .long x3)] [] 119) : ∀ (n : Nat) (M : Mem) (x0 : Nat) (x1 : Int32) (x2 : Int32) (x3 : Int64) (x5 : Int32), F_X12_plans_p50 k119 n M x0 x1 x2 x3 x5 = some res → T X (RV G res) P_X12_plans M [(x0, 14)] [(0, .ref x0), (1, .int x1), (2, .int x2), (3, .long x3), (5, .int x5)] [] 50 := by
  intro n
  induction n with
  | zero =>
    intro M x0 x1 x2 x3 x5 hF
    cases hF
  | succ n ih =>
    intro M x0 x1 x2 x3 x5 hF
    unfold F_X12_plans_p50 at hF
    refine r_iload (pc := 50) 4 dX12_plans_50 rfl ?_
    refine r_iconst (pc := 52) (w := 3) dX12_plans_52 (by decide) ?_
    refine r_icmp_gt (pc := 53) (tgt := 119) dX12_plans_53 rfl hF (fun hF => ?_) (fun hF => ?_)
    · exact T.sub (hk119 M x0 x1 x2 x3 hF) [0] [0, 1, 2, 3] rfl rfl
    · refine r_aload_n (pc := 56) 0 dX12_plans_56 rfl rfl ?_
      refine r_iload_n (pc := 57) 1 dX12_plans_57 rfl rfl ?_
      refine r_iload_n (pc := 58) 2 dX12_plans_58 rfl rfl ?_
      refine r_iload (pc := 59) 4 dX12_plans_59 rfl ?_
      refine r_callV_I (pc := 61) (Py := P_X12_mayBe) (n := 3) (As := [.int x1, .int x2, .int x5]) (fun q e => k_X12_mayBe G _ x0 x1 x2 x5 q e) (c := 13) (Tb := TX12) (N := 58) rfl (by decide) (j0 := 0) rfl tw_1514 tw_1516 tw_56 tw_70 tw_1517 hd_X12_mayBe ⟨Nat.le_of_ble_eq_true rfl, Nat.le_of_ble_eq_true rfl⟩ rfl [0] rfl rfl (Nat.le_of_ble_eq_true rfl) dX12_plans_61 hF (fun M1 r2 hF => ?_)
      refine r_if_eq (pc := 64) (tgt := 94) dX12_plans_64 rfl hF (fun hF => ?_) (fun hF => ?_)
      · refine r_ldc2 (pc := 94) (w := 9223372036854775807) tw_1481 dX12_plans_94 ?_
        exact T.sub ((w_X12_plans_p97 ih) M1 x0 x1 x2 x3 x5 (9223372036854775807 : Int64) hF) [0] [0, 1, 2, 3, 4] rfl rfl
      · refine r_aload_n (pc := 67) 0 dX12_plans_67 rfl rfl ?_
        refine r_iload_n (pc := 68) 1 dX12_plans_68 rfl rfl ?_
        refine r_iload (pc := 69) 4 dX12_plans_69 rfl ?_
        refine r_callV_J (pc := 71) (Py := P_X12_costIn) (n := 2) (As := [.int x1, .int x5]) (fun q e => k_X12_costIn G _ x0 x1 x5 q e) (c := 13) (Tb := TX12) (N := 58) rfl (by decide) (j0 := 0) rfl tw_1522 tw_1524 tw_58 tw_70 tw_1525 hd_X12_costIn ⟨Nat.le_of_ble_eq_true rfl, Nat.le_of_ble_eq_true rfl⟩ rfl [0] rfl rfl (Nat.le_of_ble_eq_true rfl) dX12_plans_71 hF (fun M3 r4 hF => ?_)
        refine r_aload_n (pc := 74) 0 dX12_plans_74 rfl rfl ?_
        refine gf_X12_142 (pc := 75) (j := 0) rfl dX12_plans_75 ?_
        refine r_lr (by decide) hF (fun b5 hF => ?_)
        refine r_bipush (pc := 78) (w := 10) dX12_plans_78 (by decide) ?_
        refine r_iload_n (pc := 80) 1 dX12_plans_80 rfl rfl ?_
        refine r_iconst (pc := 81) (w := 1) dX12_plans_81 (by decide) ?_
        refine r_iadd (pc := 82) dX12_plans_82 ?_
        refine r_imul (pc := 83) dX12_plans_83 ?_
        refine r_iload_n (pc := 84) 2 dX12_plans_84 rfl rfl ?_
        refine r_iadd (pc := 85) dX12_plans_85 ?_
        refine r_iload (pc := 86) 4 dX12_plans_86 rfl ?_
        refine r_iadd (pc := 88) dX12_plans_88 ?_
        refine r_lald (pc := 89) (j := 0) rfl dX12_plans_89 hF (fun hF => ?_)
        refine r_ladd (pc := 90) dX12_plans_90 ?_
        refine r_goto (pc := 91) (tgt := 97) dX12_plans_91 rfl ?_
        exact T.sub ((w_X12_plans_p97 ih) M3 x0 x1 x2 x3 x5 (r4 + (gB M3 b5 (ixn ((((10 : Int32) * (x1 + (1 : Int32))) + x2) + x5)))) hF) [1] [0, 1, 2, 3, 4] rfl rfl
set_option maxHeartbeats 4000000 in
theorem w_X12_plans_p119 {X : Option Cx} {G : EG} {res : Mem × Unit} {k34 : Mem → Nat → Int32 → Int32 → Option (Mem × Unit)} (hk34 : ∀ (M : Mem) (x0 : Nat) (x1 : Int32) (x2 : Int32), k34 M x0 x1 x2 = some res → T X (RV G res) P_X12_plans M [(x0, 14)] [(0, .ref x0), (1, .int x1), (2, .int x2)] [] 34) : ∀ (M : Mem) (x0 : Nat) (x1 : Int32) (x2 : Int32) (x3 : Int64), F_X12_plans_p119 k34 M x0 x1 x2 x3 = some res → T X (RV G res) P_X12_plans M [(x0, 14)] [(0, .ref x0), (1, .int x1), (2, .int x2), (3, .long x3)] [] 119 := by
  intro M x0 x1 x2 x3 hF
  unfold F_X12_plans_p119 at hF
  refine r_aload_n (pc := 119) 0 dX12_plans_119 rfl rfl ?_
  refine gf_X12_142 (pc := 120) (j := 0) rfl dX12_plans_120 ?_
  refine r_lr (by decide) hF (fun b1 hF => ?_)
  refine r_bipush (pc := 123) (w := 10) dX12_plans_123 (by decide) ?_
  refine r_iload_n (pc := 125) 1 dX12_plans_125 rfl rfl ?_
  refine r_imul (pc := 126) dX12_plans_126 ?_
  refine r_iload_n (pc := 127) 2 dX12_plans_127 rfl rfl ?_
  refine r_iadd (pc := 128) dX12_plans_128 ?_
  refine r_lload_n (pc := 129) 3 dX12_plans_129 rfl rfl ?_
  refine r_last (pc := 130) (j := 0) rfl dX12_plans_130 hF (fun M2 hF => ?_)
  obtain ⟨v3, e9, hF⟩ := bnd_e hF
  refine r_iinc (pc := 131) (w := v3) (k := 2) (L1 := [(2, .int v3), (0, .ref x0), (1, .int x1), (3, .long x3)]) dX12_plans_131 rfl (by rw [e9]; rfl) (by decide) rfl ?_
  clear e9
  refine r_goto (pc := 134) (tgt := 34) dX12_plans_134 rfl ?_
  exact T.sub (hk34 M2 x0 x1 v3 hF) [1] [1, 2, 0] rfl rfl
set_option maxHeartbeats 4000000 in
theorem w_X12_plans_p34 {X : Option Cx} {G : EG} {res : Mem × Unit} {k137 : Mem → Nat → Int32 → Option (Mem × Unit)} (hk137 : ∀ (M : Mem) (x0 : Nat) (x1 : Int32), k137 M x0 x1 = some res → T X (RV G res) P_X12_plans M [(x0, 14)] [(0, .ref x0), (1, .int x1)] [] 137) : ∀ (n : Nat) (M : Mem) (x0 : Nat) (x1 : Int32) (x2 : Int32), F_X12_plans_p34 k137 n M x0 x1 x2 = some res → T X (RV G res) P_X12_plans M [(x0, 14)] [(0, .ref x0), (1, .int x1), (2, .int x2)] [] 34 := by
  intro n
  induction n with
  | zero =>
    intro M x0 x1 x2 hF
    cases hF
  | succ n ih =>
    intro M x0 x1 x2 hF
    unfold F_X12_plans_p34 at hF
    refine r_iload_n (pc := 34) 2 dX12_plans_34 rfl rfl ?_
    refine r_aload_n (pc := 35) 0 dX12_plans_35 rfl rfl ?_
    refine gf_X12_324 (pc := 36) (j := 0) rfl dX12_plans_36 ?_
    refine r_icmp_gt (pc := 39) (tgt := 137) dX12_plans_39 rfl hF (fun hF => ?_) (fun hF => ?_)
    · exact T.sub (hk137 M x0 x1 hF) [0] [0, 1] rfl rfl
    · refine r_ldc2 (pc := 42) (w := 9223372036854775807) tw_1481 dX12_plans_42 ?_
      refine r_lstore_n (pc := 45) (L1 := [(3, .long ((9223372036854775807 : Int64))), (0, .ref x0), (1, .int x1), (2, .int x2)]) dX12_plans_45 rfl (by decide) rfl ?_
      refine r_bipush (pc := 46) (w := -3) dX12_plans_46 (by decide) ?_
      refine r_istore (pc := 48) (L1 := [(5, .int ((-3 : Int32))), (3, .long ((9223372036854775807 : Int64))), (0, .ref x0), (1, .int x1), (2, .int x2)]) dX12_plans_48 (by decide) rfl ?_
      exact T.sub ((w_X12_plans_p50 (w_X12_plans_p119 ih) FU) M x0 x1 x2 (9223372036854775807 : Int64) (-3 : Int32) hF) [0] [2, 3, 4, 1, 0] rfl rfl
set_option maxHeartbeats 4000000 in
theorem w_X12_plans_p137 {X : Option Cx} {G : EG} {res : Mem × Unit} {k28 : Mem → Nat → Int32 → Option (Mem × Unit)} (hk28 : ∀ (M : Mem) (x0 : Nat) (x1 : Int32), k28 M x0 x1 = some res → T X (RV G res) P_X12_plans M [(x0, 14)] [(0, .ref x0), (1, .int x1)] [] 28) : ∀ (M : Mem) (x0 : Nat) (x1 : Int32), F_X12_plans_p137 k28 M x0 x1 = some res → T X (RV G res) P_X12_plans M [(x0, 14)] [(0, .ref x0), (1, .int x1)] [] 137 := by
  intro M x0 x1 hF
  unfold F_X12_plans_p137 at hF
  obtain ⟨v1, e9, hF⟩ := bnd_e hF
  refine r_iinc (pc := 137) (w := v1) (k := 1) (L1 := [(1, .int v1), (0, .ref x0)]) dX12_plans_137 rfl (by rw [e9]; rfl) (by decide) rfl ?_
  clear e9
  refine r_goto (pc := 140) (tgt := 28) dX12_plans_140 rfl ?_
  exact T.sub (hk28 M x0 v1 hF) [0] [1, 0] rfl rfl
set_option maxHeartbeats 4000000 in
theorem w_X12_plans_p28 {X : Option Cx} {G : EG} {res : Mem × Unit} {k143 : Mem → Nat → Option (Mem × Unit)} (hk143 : ∀ (M : Mem) (x0 : Nat), k143 M x0 = some res → T X (RV G res) P_X12_plans M [(x0, 14)] [(0, .ref x0)] [] 143) : ∀ (n : Nat) (M : Mem) (x0 : Nat) (x1 : Int32), F_X12_plans_p28 k143 n M x0 x1 = some res → T X (RV G res) P_X12_plans M [(x0, 14)] [(0, .ref x0), (1, .int x1)] [] 28 := by
  intro n
  induction n with
  | zero =>
    intro M x0 x1 hF
    cases hF
  | succ n ih =>
    intro M x0 x1 hF
    unfold F_X12_plans_p28 at hF
    refine r_iload_n (pc := 28) 1 dX12_plans_28 rfl rfl ?_
    refine r_if_lt (pc := 29) (tgt := 143) dX12_plans_29 rfl hF (fun hF => ?_) (fun hF => ?_)
    · exact T.sub (hk143 M x0 hF) [0] [0] rfl rfl
    · refine r_iconst (pc := 32) (w := 0) dX12_plans_32 (by decide) ?_
      refine r_istore_n (pc := 33) (L1 := [(2, .int ((0 : Int32))), (0, .ref x0), (1, .int x1)]) dX12_plans_33 rfl (by decide) rfl ?_
      exact T.sub ((w_X12_plans_p34 (w_X12_plans_p137 ih) FU) M x0 x1 (0 : Int32) hF) [0] [1, 2, 0] rfl rfl
set_option maxHeartbeats 4000000 in
theorem w_X12_plans_p203 {X : Option Cx} {G : EG} {res : Mem × Unit} {k156 : Mem → Nat → Int32 → Int32 → Int32 → Option (Mem × Unit)} (hk156 : ∀ (M : Mem) (x0 : Nat) (x1 : Int32) (x2 : Int32) (x3 : Int32), k156 M x0 x1 x2 x3 = some res → T X (RV G res) P_X12_plans M [(x0, 14)] [(0, .ref x0), (1, .int x1), (2, .int x2), (3, .int x3)] [] 156) : ∀ (M : Mem) (x0 : Nat) (x1 : Int32) (x2 : Int32) (x3 : Int32), F_X12_plans_p203 k156 M x0 x1 x2 x3 = some res → T X (RV G res) P_X12_plans M [(x0, 14)] [(0, .ref x0), (1, .int x1), (2, .int x2), (3, .int x3)] [] 203 := by
  intro M x0 x1 x2 x3 hF
  unfold F_X12_plans_p203 at hF
  obtain ⟨v1, e9, hF⟩ := bnd_e hF
  refine r_iinc (pc := 203) (w := v1) (k := 3) (L1 := [(3, .int v1), (0, .ref x0), (1, .int x1), (2, .int x2)]) dX12_plans_203 rfl (by rw [e9]; rfl) (by decide) rfl ?_
  clear e9
  refine r_goto (pc := 206) (tgt := 156) dX12_plans_206 rfl ?_
  exact T.sub (hk156 M x0 x1 x2 v1 hF) [0] [1, 2, 3, 0] rfl rfl
set_option maxHeartbeats 4000000 in
theorem w_X12_plans_p156 {X : Option Cx} {G : EG} {res : Mem × Unit} {k209 : Mem → Nat → Int32 → Int32 → Int32 → Option (Mem × Unit)} (hk209 : ∀ (M : Mem) (x0 : Nat) (x1 : Int32) (x2 : Int32) (x3 : Int32), k209 M x0 x1 x2 x3 = some res → T X (RV G res) P_X12_plans M [(x0, 14)] [(0, .ref x0), (1, .int x1), (2, .int x2), (3, .int x3)] [] 209) : ∀ (n : Nat) (M : Mem) (x0 : Nat) (x1 : Int32) (x2 : Int32) (x3 : Int32), F_X12_plans_p156 k209 n M x0 x1 x2 x3 = some res → T X (RV G res) P_X12_plans M [(x0, 14)] [(0, .ref x0), (1, .int x1), (2, .int x2), (3, .int x3)] [] 156 := by
  intro n
  induction n with
  | zero =>
    intro M x0 x1 x2 x3 hF
    cases hF
  | succ n ih =>
    intro M x0 x1 x2 x3 hF
    unfold F_X12_plans_p156 at hF
    refine r_aload_n (pc := 156) 0 dX12_plans_156 rfl rfl ?_
    refine r_iload_n (pc := 157) 2 dX12_plans_157 rfl rfl ?_
    refine r_iload_n (pc := 158) 1 dX12_plans_158 rfl rfl ?_
    refine r_iload_n (pc := 159) 3 dX12_plans_159 rfl rfl ?_
    refine r_callV_I (pc := 160) (Py := P_X12_mayBe) (n := 3) (As := [.int x2, .int x1, .int x3]) (fun q e => k_X12_mayBe G _ x0 x2 x1 x3 q e) (c := 13) (Tb := TX12) (N := 58) rfl (by decide) (j0 := 0) rfl tw_1514 tw_1516 tw_56 tw_70 tw_1517 hd_X12_mayBe ⟨Nat.le_of_ble_eq_true rfl, Nat.le_of_ble_eq_true rfl⟩ rfl [0] rfl rfl (Nat.le_of_ble_eq_true rfl) dX12_plans_160 hF (fun M1 r2 hF => ?_)
    refine r_if_eq (pc := 163) (tgt := 203) dX12_plans_163 rfl hF (fun hF => ?_) (fun hF => ?_)
    · exact T.sub ((w_X12_plans_p203 ih) M1 x0 x1 x2 x3 hF) [0] [0, 1, 2, 3] rfl rfl
    · refine r_aload_n (pc := 166) 0 dX12_plans_166 rfl rfl ?_
      refine r_iload_n (pc := 167) 2 dX12_plans_167 rfl rfl ?_
      refine r_iload_n (pc := 168) 3 dX12_plans_168 rfl rfl ?_
      refine r_callV_J (pc := 169) (Py := P_X12_costIn) (n := 2) (As := [.int x2, .int x3]) (fun q e => k_X12_costIn G _ x0 x2 x3 q e) (c := 13) (Tb := TX12) (N := 58) rfl (by decide) (j0 := 0) rfl tw_1522 tw_1524 tw_58 tw_70 tw_1525 hd_X12_costIn ⟨Nat.le_of_ble_eq_true rfl, Nat.le_of_ble_eq_true rfl⟩ rfl [0] rfl rfl (Nat.le_of_ble_eq_true rfl) dX12_plans_169 hF (fun M3 r4 hF => ?_)
      refine r_aload_n (pc := 172) 0 dX12_plans_172 rfl rfl ?_
      refine gf_X12_142 (pc := 173) (j := 0) rfl dX12_plans_173 ?_
      refine r_lr (by decide) hF (fun b5 hF => ?_)
      refine r_bipush (pc := 176) (w := 10) dX12_plans_176 (by decide) ?_
      refine r_iload_n (pc := 178) 2 dX12_plans_178 rfl rfl ?_
      refine r_iconst (pc := 179) (w := 1) dX12_plans_179 (by decide) ?_
      refine r_iadd (pc := 180) dX12_plans_180 ?_
      refine r_imul (pc := 181) dX12_plans_181 ?_
      refine r_iload_n (pc := 182) 1 dX12_plans_182 rfl rfl ?_
      refine r_iadd (pc := 183) dX12_plans_183 ?_
      refine r_iload_n (pc := 184) 3 dX12_plans_184 rfl rfl ?_
      refine r_iadd (pc := 185) dX12_plans_185 ?_
      refine r_lald (pc := 186) (j := 0) rfl dX12_plans_186 hF (fun hF => ?_)
      refine r_ladd (pc := 187) dX12_plans_187 ?_
      refine r_aload_n (pc := 188) 0 dX12_plans_188 rfl rfl ?_
      refine gf_X12_142 (pc := 189) (j := 1) rfl dX12_plans_189 ?_
      refine r_lr (by decide) hF (fun b6 hF => ?_)
      refine r_bipush (pc := 192) (w := 10) dX12_plans_192 (by decide) ?_
      refine r_iload_n (pc := 194) 2 dX12_plans_194 rfl rfl ?_
      refine r_imul (pc := 195) dX12_plans_195 ?_
      refine r_iload_n (pc := 196) 1 dX12_plans_196 rfl rfl ?_
      refine r_iadd (pc := 197) dX12_plans_197 ?_
      refine r_lald (pc := 198) (j := 0) rfl dX12_plans_198 hF (fun hF => ?_)
      refine r_lcmp (pc := 199) dX12_plans_199 ?_
      refine r_if_eq (pc := 200) (tgt := 209) dX12_plans_200 rfl hF (fun hF => ?_) (fun hF => ?_)
      · exact T.sub (hk209 M3 x0 x1 x2 x3 hF) [2] [0, 1, 2, 3] rfl rfl
      · exact T.sub ((w_X12_plans_p203 ih) M3 x0 x1 x2 x3 hF) [2] [0, 1, 2, 3] rfl rfl
set_option maxHeartbeats 4000000 in
theorem w_X12_plans_p209 {X : Option Cx} {G : EG} {res : Mem × Unit} {k147 : Mem → Nat → Int32 → Int32 → Option (Mem × Unit)} (hk147 : ∀ (M : Mem) (x0 : Nat) (x1 : Int32) (x2 : Int32), k147 M x0 x1 x2 = some res → T X (RV G res) P_X12_plans M [(x0, 14)] [(0, .ref x0), (1, .int x1), (2, .int x2)] [] 147) : ∀ (M : Mem) (x0 : Nat) (x1 : Int32) (x2 : Int32) (x3 : Int32), F_X12_plans_p209 k147 M x0 x1 x2 x3 = some res → T X (RV G res) P_X12_plans M [(x0, 14)] [(0, .ref x0), (1, .int x1), (2, .int x2), (3, .int x3)] [] 209 := by
  intro M x0 x1 x2 x3 hF
  unfold F_X12_plans_p209 at hF
  refine r_aload_n (pc := 209) 0 dX12_plans_209 rfl rfl ?_
  refine gf_X12_145 (pc := 210) (j := 0) rfl dX12_plans_210 ?_
  refine r_lr (by decide) hF (fun b1 hF => ?_)
  refine r_iload_n (pc := 213) 2 dX12_plans_213 rfl rfl ?_
  refine r_aload_n (pc := 214) 0 dX12_plans_214 rfl rfl ?_
  refine r_iload_n (pc := 215) 2 dX12_plans_215 rfl rfl ?_
  refine r_iload_n (pc := 216) 3 dX12_plans_216 rfl rfl ?_
  refine r_callV_J (pc := 217) (Py := P_X12_boughtIn) (n := 2) (As := [.int x2, .int x3]) (fun q e => k_X12_boughtIn G _ x0 x2 x3 q e) (c := 13) (Tb := TX12) (N := 58) rfl (by decide) (j0 := 1) rfl tw_1518 tw_1520 tw_57 tw_70 tw_1521 hd_X12_boughtIn ⟨Nat.le_of_ble_eq_true rfl, Nat.le_of_ble_eq_true rfl⟩ rfl [1] rfl rfl (Nat.le_of_ble_eq_true rfl) dX12_plans_217 hF (fun M2 r3 hF => ?_)
  refine r_last (pc := 220) (j := 0) rfl dX12_plans_220 hF (fun M4 hF => ?_)
  refine r_iload_n (pc := 221) 1 dX12_plans_221 rfl rfl ?_
  refine r_iload_n (pc := 222) 3 dX12_plans_222 rfl rfl ?_
  refine r_iadd (pc := 223) dX12_plans_223 ?_
  refine r_gI (pc := 224) hF (fun v5 hF => ?_)
  refine r_istore_n (pc := 224) (L1 := [(1, .int v5), (0, .ref x0), (2, .int x2), (3, .int x3)]) dX12_plans_224 rfl (by decide) rfl ?_
  obtain ⟨v6, e9, hF⟩ := bnd_e hF
  refine r_iinc (pc := 225) (w := v6) (k := 2) (L1 := [(2, .int v6), (1, .int v5), (0, .ref x0), (3, .int x3)]) dX12_plans_225 rfl (by rw [e9]; rfl) (by decide) rfl ?_
  clear e9
  refine r_goto (pc := 228) (tgt := 147) dX12_plans_228 rfl ?_
  exact T.sub (hk147 M4 x0 v5 v6 hF) [1] [2, 1, 0] rfl rfl
set_option maxHeartbeats 4000000 in
theorem w_X12_plans_p147 {X : Option Cx} {G : EG} {res : Mem × Unit} {k231 : Mem → Option (Mem × Unit)} (hk231 : ∀ (M : Mem), k231 M = some res → T X (RV G res) P_X12_plans M [] [] [] 231) : ∀ (n : Nat) (M : Mem) (x0 : Nat) (x1 : Int32) (x2 : Int32), F_X12_plans_p147 k231 n M x0 x1 x2 = some res → T X (RV G res) P_X12_plans M [(x0, 14)] [(0, .ref x0), (1, .int x1), (2, .int x2)] [] 147 := by
  intro n
  induction n with
  | zero =>
    intro M x0 x1 x2 hF
    cases hF
  | succ n ih =>
    intro M x0 x1 x2 hF
    unfold F_X12_plans_p147 at hF
    refine r_iload_n (pc := 147) 2 dX12_plans_147 rfl rfl ?_
    refine r_bipush (pc := 148) (w := 24) dX12_plans_148 (by decide) ?_
    refine r_icmp_ge (pc := 150) (tgt := 231) dX12_plans_150 rfl hF (fun hF => ?_) (fun hF => ?_)
    · exact T.sub (hk231 M hF) [] [] rfl rfl
    · refine r_bipush (pc := 153) (w := -3) dX12_plans_153 (by decide) ?_
      refine r_istore_n (pc := 155) (L1 := [(3, .int ((-3 : Int32))), (0, .ref x0), (1, .int x1), (2, .int x2)]) dX12_plans_155 rfl (by decide) rfl ?_
      exact T.sub ((w_X12_plans_p156 (w_X12_plans_p209 ih) FU) M x0 x1 x2 (-3 : Int32) hF) [0] [1, 2, 3, 0] rfl rfl
set_option maxHeartbeats 4000000 in
theorem w_X12_plans_p231 {X : Option Cx} {G : EG} {res : Mem × Unit} : ∀ (M : Mem), F_X12_plans_p231 M = some res → T X (RV G res) P_X12_plans M [] [] [] 231 := by
  intro M hF
  unfold F_X12_plans_p231 at hF
  exact r_vret (pc := 231) dX12_plans_231 hF
set_option maxHeartbeats 4000000 in
theorem w_X12_plans_p143 {X : Option Cx} {G : EG} {res : Mem × Unit} : ∀ (M : Mem) (x0 : Nat), F_X12_plans_p143 M x0 = some res → T X (RV G res) P_X12_plans M [(x0, 14)] [(0, .ref x0)] [] 143 := by
  intro M x0 hF
  unfold F_X12_plans_p143 at hF
  refine r_iconst (pc := 143) (w := 0) dX12_plans_143 (by decide) ?_
  refine r_istore_n (pc := 144) (L1 := [(1, .int ((0 : Int32))), (0, .ref x0)]) dX12_plans_144 rfl (by decide) rfl ?_
  refine r_iconst (pc := 145) (w := 0) dX12_plans_145 (by decide) ?_
  refine r_istore_n (pc := 146) (L1 := [(2, .int ((0 : Int32))), (1, .int ((0 : Int32))), (0, .ref x0)]) dX12_plans_146 rfl (by decide) rfl ?_
  exact T.sub ((w_X12_plans_p147 (w_X12_plans_p231) FU) M x0 (0 : Int32) (0 : Int32) hF) [0] [2, 1, 0] rfl rfl
set_option maxHeartbeats 4000000 in
theorem w_X12_plans_p25 {X : Option Cx} {G : EG} {res : Mem × Unit} : ∀ (M : Mem) (x0 : Nat), F_X12_plans_p25 M x0 = some res → T X (RV G res) P_X12_plans M [(x0, 14)] [(0, .ref x0)] [] 25 := by
  intro M x0 hF
  unfold F_X12_plans_p25 at hF
  refine r_bipush (pc := 25) (w := 23) dX12_plans_25 (by decide) ?_
  refine r_istore_n (pc := 27) (L1 := [(1, .int ((23 : Int32))), (0, .ref x0)]) dX12_plans_27 rfl (by decide) rfl ?_
  exact T.sub ((w_X12_plans_p28 (w_X12_plans_p143) FU) M x0 (23 : Int32) hF) [0] [1, 0] rfl rfl
set_option maxHeartbeats 4000000 in
theorem w_X12_plans {X : Option Cx} {G : EG} {res : Mem × Unit} (M : Mem) (a0 : Nat) (hF : F_X12_plans M a0 = some res) : T X (RV G res) P_X12_plans M [(a0, 14)] [(0, .ref a0)] [] 0 := by
  unfold F_X12_plans at hF
  refine r_iconst (pc := 0) (w := 0) dX12_plans_0 (by decide) ?_
  refine r_istore_n (pc := 1) (L1 := [(1, .int ((0 : Int32))), (0, .ref a0)]) dX12_plans_1 rfl (by decide) rfl ?_
  exact T.sub ((w_X12_plans_p2 (w_X12_plans_p25) FU) M a0 (0 : Int32) hF) [0] [1, 0] rfl rfl
theorem k_X12_plans (G : EG) (M : Mem) (a0 : Nat) (q : Mem × Unit) (h : F_X12_plans M a0 = some q) : Kt yX12_plans P_X12_plans M [(a0, 14)] [.ref a0] (RV G q) := Kt.of (by decide +kernel) rfl (Nat.le_of_ble_eq_true rfl) rfl (fun X hz => w_X12_plans M a0 h)
set_option maxHeartbeats 4000000 in
theorem w_X12_best_p44 {X : Option Cx} {G : EG} {res : Mem × Int64} : ∀ (M : Mem) (y0 : Int64), F_X12_best_p44 M y0 = some res → T X (RJ G res) P_X12_best M [] [] [.long y0] 44 := by
  intro M y0 hF
  unfold F_X12_best_p44 at hF
  exact r_lret (pc := 44) dX12_best_44 hF
set_option maxHeartbeats 4000000 in
theorem w_X12_best {X : Option Cx} {G : EG} {res : Mem × Int64} (M : Mem) (a0 : Nat) (a1 : Int32) (hF : F_X12_best M a0 a1 = some res) : T X (RJ G res) P_X12_best M [(a0, 14)] [(0, .ref a0), (1, .int a1)] [] 0 := by
  unfold F_X12_best at hF
  refine r_iload_n (pc := 0) 1 dX12_best_0 rfl rfl ?_
  refine r_i2l (pc := 1) dX12_best_1 ?_
  refine r_lconst (pc := 2) (w := 0) dX12_best_2 (by decide) ?_
  refine r_ldc2 (pc := 3) (w := 24) tw_1509 dX12_best_3 ?_
  refine r_callS_I (pc := 6) (Py := P_X12_in) (n := 3) (As := [.long (a1.toInt64), .long ((0 : Int64)), .long ((24 : Int64))]) (fun q e => k_X12_in G _ (a1.toInt64) (0 : Int64) (24 : Int64) q e) tw_1342 tw_1343 tw_70 tw_1344 hd_X12_in ⟨Nat.le_of_ble_eq_true rfl, Nat.le_of_ble_eq_true rfl⟩ rfl [] rfl rfl (Nat.le_of_ble_eq_true rfl) dX12_best_6 hF (fun M1 r2 hF => ?_)
  refine r_if_ne (pc := 9) (tgt := 19) dX12_best_9 rfl hF (fun hF => ?_) (fun hF => ?_)
  · refine r_aload_n (pc := 19) 0 dX12_best_19 rfl rfl ?_
    refine r_callV_V (pc := 20) (Py := P_X12_plans) (n := 0) (As := []) (fun q e => k_X12_plans G _ a0 q e) (c := 13) (Tb := TX12) (N := 58) rfl (by decide) (j0 := 0) rfl tw_1510 tw_1512 tw_55 tw_70 tw_1513 hd_X12_plans ⟨Nat.le_of_ble_eq_true rfl, Nat.le_of_ble_eq_true rfl⟩ rfl [0] rfl rfl (Nat.le_of_ble_eq_true rfl) dX12_best_20 hF (fun M3 r4 hF => ?_)
    refine r_iload_n (pc := 23) 1 dX12_best_23 rfl rfl ?_
    refine r_bipush (pc := 24) (w := 24) dX12_best_24 (by decide) ?_
    refine r_icmp_ne (pc := 26) (tgt := 38) dX12_best_26 rfl hF (fun hF => ?_) (fun hF => ?_)
    · refine r_aload_n (pc := 38) 0 dX12_best_38 rfl rfl ?_
      refine gf_X12_145 (pc := 39) (j := 0) rfl dX12_best_39 ?_
      refine r_lr (by decide) hF (fun b5 hF => ?_)
      refine r_iload_n (pc := 42) 1 dX12_best_42 rfl rfl ?_
      refine r_lald (pc := 43) (j := 0) rfl dX12_best_43 hF (fun hF => ?_)
      exact T.sub ((w_X12_best_p44) M3 (gB M3 b5 (ixn a1)) hF) [] [] rfl rfl
    · refine r_aload_n (pc := 29) 0 dX12_best_29 rfl rfl ?_
      refine gf_X12_142 (pc := 30) (j := 0) rfl dX12_best_30 ?_
      refine r_lr (by decide) hF (fun b6 hF => ?_)
      refine r_iconst (pc := 33) (w := 0) dX12_best_33 (by decide) ?_
      refine r_lald (pc := 34) (j := 0) rfl dX12_best_34 hF (fun hF => ?_)
      refine r_goto (pc := 35) (tgt := 44) dX12_best_35 rfl ?_
      exact T.sub ((w_X12_best_p44) M3 (gB M3 b6 (ixn (0 : Int32))) hF) [] [] rfl rfl
  · refine r_aload_n (pc := 12) 0 dX12_best_12 rfl rfl ?_
    refine r_bipush (pc := 13) (w := -2) dX12_best_13 (by decide) ?_
    refine r_callV_J (pc := 15) (Py := P_X12_refuseLong) (n := 1) (As := [.int ((-2 : Int32))]) (fun q e => k_X12_refuseLong G _ a0 (-2 : Int32) q e) (c := 13) (Tb := TX12) (N := 58) rfl (by decide) (j0 := 0) rfl tw_1361 tw_1363 tw_43 tw_70 tw_1364 hd_X12_refuseLong ⟨Nat.le_of_ble_eq_true rfl, Nat.le_of_ble_eq_true rfl⟩ rfl [0] rfl rfl (Nat.le_of_ble_eq_true rfl) dX12_best_15 hF (fun M7 r8 hF => ?_)
    exact r_lret (pc := 18) dX12_best_18 hF
theorem k_X12_best (G : EG) (M : Mem) (a0 : Nat) (a1 : Int32) (q : Mem × Int64) (h : F_X12_best M a0 a1 = some q) : Kt yX12_best P_X12_best M [(a0, 14)] [.ref a0, .int a1] (RJ G q) := Kt.of (by decide +kernel) rfl (Nat.le_of_ble_eq_true rfl) rfl (fun X hz => w_X12_best M a0 a1 h)
set_option maxHeartbeats 4000000 in
theorem w_X12_bore_p25 {X : Option Cx} {G : EG} {res : Mem × Int32} : ∀ (M : Mem) (x0 : Nat), F_X12_bore_p25 M x0 = some res → T X (RI G res) P_X12_bore M [(x0, 14)] [(0, .ref x0)] [] 25 := by
  intro M x0 hF
  unfold F_X12_bore_p25 at hF
  refine r_aload_n (pc := 25) 0 dX12_bore_25 rfl rfl ?_
  refine r_bipush (pc := 26) (w := -4) dX12_bore_26 (by decide) ?_
  refine r_callV_I (pc := 28) (Py := P_X12_refuse) (n := 1) (As := [.int ((-4 : Int32))]) (fun q e => k_X12_refuse G _ x0 (-4 : Int32) q e) (c := 13) (Tb := TX12) (N := 58) rfl (by decide) (j0 := 0) rfl tw_1266 tw_1268 tw_28 tw_70 tw_1269 hd_X12_refuse ⟨Nat.le_of_ble_eq_true rfl, Nat.le_of_ble_eq_true rfl⟩ rfl [0] rfl rfl (Nat.le_of_ble_eq_true rfl) dX12_bore_28 hF (fun M1 r2 hF => ?_)
  exact r_iret (pc := 31) dX12_bore_31 hF
set_option maxHeartbeats 4000000 in
theorem w_X12_bore_p76 {X : Option Cx} {G : EG} {res : Mem × Int32} : ∀ (M : Mem) (x0 : Nat), F_X12_bore_p76 M x0 = some res → T X (RI G res) P_X12_bore M [(x0, 14)] [(0, .ref x0)] [] 76 := by
  intro M x0 hF
  unfold F_X12_bore_p76 at hF
  refine r_aload_n (pc := 76) 0 dX12_bore_76 rfl rfl ?_
  refine r_bipush (pc := 77) (w := -6) dX12_bore_77 (by decide) ?_
  refine r_callV_I (pc := 79) (Py := P_X12_refuse) (n := 1) (As := [.int ((-6 : Int32))]) (fun q e => k_X12_refuse G _ x0 (-6 : Int32) q e) (c := 13) (Tb := TX12) (N := 58) rfl (by decide) (j0 := 0) rfl tw_1266 tw_1268 tw_28 tw_70 tw_1269 hd_X12_refuse ⟨Nat.le_of_ble_eq_true rfl, Nat.le_of_ble_eq_true rfl⟩ rfl [0] rfl rfl (Nat.le_of_ble_eq_true rfl) dX12_bore_79 hF (fun M1 r2 hF => ?_)
  exact r_iret (pc := 82) dX12_bore_82 hF
set_option maxHeartbeats 4000000 in
theorem w_X12_bore_p166 {X : Option Cx} {G : EG} {res : Mem × Int32} {k199 : Mem → Int32 → Option (Mem × Int32)} (hk199 : ∀ (M : Mem) (x6 : Int32), k199 M x6 = some res → T X (RI G res) P_X12_bore M [] [(6, .int x6)] [] 199) : ∀ (n : Nat) (M : Mem) (x0 : Nat) (x2 : Int32) (x6 : Int32) (x7 : Int32), F_X12_bore_p166 k199 n M x0 x2 x6 x7 = some res → T X (RI G res) P_X12_bore M [(x0, 14)] [(0, .ref x0), (2, .int x2), (6, .int x6), (7, .int x7)] [] 166 := by
  intro n
  induction n with
  | zero =>
    intro M x0 x2 x6 x7 hF
    cases hF
  | succ n ih =>
    intro M x0 x2 x6 x7 hF
    unfold F_X12_bore_p166 at hF
    refine r_iload (pc := 166) 3 dX12_bore_166 rfl ?_
    refine r_iload_n (pc := 168) 1 dX12_bore_168 rfl rfl ?_
    refine r_icmp_ge (pc := 169) (tgt := 199) dX12_bore_169 rfl hF (fun hF => ?_) (fun hF => ?_)
    · exact T.sub (hk199 M x6 hF) [] [2] rfl rfl
    · refine r_aload_n (pc := 172) 0 dX12_bore_172 rfl rfl ?_
      refine gf_X12_41 (pc := 173) (j := 0) rfl dX12_bore_173 ?_
      refine r_lr (by decide) hF (fun b1 hF => ?_)
      refine r_bipush (pc := 176) (w := 8) dX12_bore_176 (by decide) ?_
      refine r_iload (pc := 178) 2 dX12_bore_178 rfl ?_
      refine r_imul (pc := 180) dX12_bore_180 ?_
      refine r_iload (pc := 181) 3 dX12_bore_181 rfl ?_
      refine r_iadd (pc := 183) dX12_bore_183 ?_
      refine r_aload_n (pc := 184) 0 dX12_bore_184 rfl rfl ?_
      refine r_iload (pc := 185) 2 dX12_bore_185 rfl ?_
      refine r_iload (pc := 187) 3 dX12_bore_187 rfl ?_
      refine r_callV_J (pc := 189) (Py := P_X12_atFirst) (n := 2) (As := [.int x6, .int x7]) (fun q e => k_X12_atFirst G _ x0 x6 x7 q e) (c := 13) (Tb := TX12) (N := 58) rfl (by decide) (j0 := 1) rfl tw_1322 tw_1324 tw_39 tw_70 tw_1325 hd_X12_atFirst ⟨Nat.le_of_ble_eq_true rfl, Nat.le_of_ble_eq_true rfl⟩ rfl [1] rfl rfl (Nat.le_of_ble_eq_true rfl) dX12_bore_189 hF (fun M2 r3 hF => ?_)
      refine r_last (pc := 192) (j := 0) rfl dX12_bore_192 hF (fun M4 hF => ?_)
      obtain ⟨v5, e9, hF⟩ := bnd_e hF
      refine r_iinc (pc := 193) (w := v5) (k := 3) (L1 := [(7, .int v5), (0, .ref x0), (2, .int x2), (6, .int x6)]) dX12_bore_193 rfl (by rw [e9]; rfl) (by decide) rfl ?_
      clear e9
      refine r_goto (pc := 196) (tgt := 166) dX12_bore_196 rfl ?_
      exact T.sub (ih M4 x0 x2 x6 v5 hF) [1] [1, 2, 3, 0] rfl rfl
set_option maxHeartbeats 4000000 in
theorem w_X12_bore_p199 {X : Option Cx} {G : EG} {res : Mem × Int32} : ∀ (M : Mem) (x6 : Int32), F_X12_bore_p199 M x6 = some res → T X (RI G res) P_X12_bore M [] [(6, .int x6)] [] 199 := by
  intro M x6 hF
  unfold F_X12_bore_p199 at hF
  refine r_iload (pc := 199) 0 dX12_bore_199 rfl ?_
  exact r_iret (pc := 201) dX12_bore_201 hF
set_option maxHeartbeats 4000000 in
theorem w_X12_bore {X : Option Cx} {G : EG} {res : Mem × Int32} (M : Mem) (a0 : Nat) (a1 : Int32) (a2 : Int32) (a3 : Int32) (a4 : Int32) (a5 : Int32) (hF : F_X12_bore M a0 a1 a2 a3 a4 a5 = some res) : T X (RI G res) P_X12_bore M [(a0, 14)] [(0, .ref a0), (1, .int a1), (2, .int a2), (3, .int a3), (4, .int a4), (5, .int a5)] [] 0 := by
  unfold F_X12_bore at hF
  refine r_iload_n (pc := 0) 1 dX12_bore_0 rfl rfl ?_
  refine r_if_lt (pc := 1) (tgt := 25) dX12_bore_1 rfl hF (fun hF => ?_) (fun hF => ?_)
  · exact T.sub ((w_X12_bore_p25) M a0 hF) [0] [0] rfl rfl
  · refine r_iload_n (pc := 4) 2 dX12_bore_4 rfl rfl ?_
    refine r_iconst (pc := 5) (w := 1) dX12_bore_5 (by decide) ?_
    refine r_icmp_lt (pc := 6) (tgt := 25) dX12_bore_6 rfl hF (fun hF => ?_) (fun hF => ?_)
    · exact T.sub ((w_X12_bore_p25) M a0 hF) [0] [0] rfl rfl
    · refine r_iload_n (pc := 9) 3 dX12_bore_9 rfl rfl ?_
      refine r_bipush (pc := 10) (w := 100) dX12_bore_10 (by decide) ?_
      refine r_icmp_lt (pc := 12) (tgt := 25) dX12_bore_12 rfl hF (fun hF => ?_) (fun hF => ?_)
      · exact T.sub ((w_X12_bore_p25) M a0 hF) [0] [0] rfl rfl
      · refine r_iload (pc := 15) 4 dX12_bore_15 rfl ?_
        refine r_if_lt (pc := 17) (tgt := 25) dX12_bore_17 rfl hF (fun hF => ?_) (fun hF => ?_)
        · exact T.sub ((w_X12_bore_p25) M a0 hF) [0] [0] rfl rfl
        · refine r_iload (pc := 20) 5 dX12_bore_20 rfl ?_
          refine r_if_ge (pc := 22) (tgt := 32) dX12_bore_22 rfl hF (fun hF => ?_) (fun hF => ?_)
          · refine r_iload_n (pc := 32) 1 dX12_bore_32 rfl rfl ?_
            refine r_sipush (pc := 33) (w := 9999) dX12_bore_33 (by decide) ?_
            refine r_icmp_gt (pc := 36) (tgt := 76) dX12_bore_36 rfl hF (fun hF => ?_) (fun hF => ?_)
            · exact T.sub ((w_X12_bore_p76) M a0 hF) [0] [0] rfl rfl
            · refine r_iload_n (pc := 39) 2 dX12_bore_39 rfl rfl ?_
              refine r_bipush (pc := 40) (w := 8) dX12_bore_40 (by decide) ?_
              refine r_icmp_gt (pc := 42) (tgt := 76) dX12_bore_42 rfl hF (fun hF => ?_) (fun hF => ?_)
              · exact T.sub ((w_X12_bore_p76) M a0 hF) [0] [0] rfl rfl
              · refine r_iload_n (pc := 45) 3 dX12_bore_45 rfl rfl ?_
                refine r_sipush (pc := 46) (w := 9999) dX12_bore_46 (by decide) ?_
                refine r_icmp_gt (pc := 49) (tgt := 76) dX12_bore_49 rfl hF (fun hF => ?_) (fun hF => ?_)
                · exact T.sub ((w_X12_bore_p76) M a0 hF) [0] [0] rfl rfl
                · refine r_iload (pc := 52) 4 dX12_bore_52 rfl ?_
                  refine r_sipush (pc := 54) (w := 999) dX12_bore_54 (by decide) ?_
                  refine r_icmp_gt (pc := 57) (tgt := 76) dX12_bore_57 rfl hF (fun hF => ?_) (fun hF => ?_)
                  · exact T.sub ((w_X12_bore_p76) M a0 hF) [0] [0] rfl rfl
                  · refine r_iload (pc := 60) 5 dX12_bore_60 rfl ?_
                    refine r_bipush (pc := 62) (w := 99) dX12_bore_62 (by decide) ?_
                    refine r_icmp_gt (pc := 64) (tgt := 76) dX12_bore_64 rfl hF (fun hF => ?_) (fun hF => ?_)
                    · exact T.sub ((w_X12_bore_p76) M a0 hF) [0] [0] rfl rfl
                    · refine r_aload_n (pc := 67) 0 dX12_bore_67 rfl rfl ?_
                      refine gf_X12_154 (pc := 68) (j := 0) rfl dX12_bore_68 ?_
                      refine r_bipush (pc := 71) (w := 8) dX12_bore_71 (by decide) ?_
                      refine r_icmp_ne (pc := 73) (tgt := 83) dX12_bore_73 rfl hF (fun hF => ?_) (fun hF => ?_)
                      · refine r_aload_n (pc := 83) 0 dX12_bore_83 rfl rfl ?_
                        refine gf_X12_154 (pc := 84) (j := 0) rfl dX12_bore_84 ?_
                        refine r_gI (pc := 87) hF (fun v1 hF => ?_)
                        refine r_istore (pc := 87) (L1 := [(6, .int v1), (0, .ref a0), (1, .int a1), (2, .int a2), (3, .int a3), (4, .int a4), (5, .int a5)]) dX12_bore_87 (by decide) rfl ?_
                        refine r_aload_n (pc := 89) 1 dX12_bore_89 rfl rfl ?_
                        refine r_dup (pc := 90) dX12_bore_90 rfl ?_
                        refine gf_X12_154 (pc := 91) (j := 0) rfl dX12_bore_91 ?_
                        refine r_iconst (pc := 94) (w := 1) dX12_bore_94 (by decide) ?_
                        refine r_iadd (pc := 95) dX12_bore_95 ?_
                        refine pf_X12_154 (pc := 96) (j := 0) rfl dX12_bore_96 hF (fun M2 hF => ?_)
                        refine r_aload_n (pc := 99) 1 dX12_bore_99 rfl rfl ?_
                        refine gf_X12_13 (pc := 100) (j := 0) rfl dX12_bore_100 ?_
                        refine r_lr (by decide) hF (fun b3 hF => ?_)
                        refine r_iload (pc := 103) 0 dX12_bore_103 rfl ?_
                        refine r_iload_n (pc := 105) 2 dX12_bore_105 rfl rfl ?_
                        refine r_bipush (pc := 106) (w := 100) dX12_bore_106 (by decide) ?_
                        refine r_idivc (pc := 108) dX12_bore_108 (by decide) ?_
                        refine r_iast (pc := 109) (j := 0) rfl dX12_bore_109 hF (fun M4 hF => ?_)
                        refine r_aload_n (pc := 110) 1 dX12_bore_110 rfl rfl ?_
                        refine gf_X12_16 (pc := 111) (j := 1) rfl dX12_bore_111 ?_
                        refine r_lr (by decide) hF (fun b5 hF => ?_)
                        refine r_iload (pc := 114) 0 dX12_bore_114 rfl ?_
                        refine r_iload_n (pc := 116) 2 dX12_bore_116 rfl rfl ?_
                        refine r_bipush (pc := 117) (w := 100) dX12_bore_117 (by decide) ?_
                        refine r_iremc (pc := 119) dX12_bore_119 (by decide) ?_
                        refine r_iast (pc := 120) (j := 0) rfl dX12_bore_120 hF (fun M6 hF => ?_)
                        refine r_aload_n (pc := 121) 1 dX12_bore_121 rfl rfl ?_
                        refine gf_X12_19 (pc := 122) (j := 2) rfl dX12_bore_122 ?_
                        refine r_lr (by decide) hF (fun b7 hF => ?_)
                        refine r_iload (pc := 125) 0 dX12_bore_125 rfl ?_
                        refine r_iload_n (pc := 127) 3 dX12_bore_127 rfl rfl ?_
                        refine r_iast (pc := 128) (j := 0) rfl dX12_bore_128 hF (fun M8 hF => ?_)
                        refine r_aload_n (pc := 129) 1 dX12_bore_129 rfl rfl ?_
                        refine gf_X12_22 (pc := 130) (j := 3) rfl dX12_bore_130 ?_
                        refine r_lr (by decide) hF (fun b9 hF => ?_)
                        refine r_iload (pc := 133) 0 dX12_bore_133 rfl ?_
                        refine r_iload_n (pc := 135) 4 dX12_bore_135 rfl rfl ?_
                        refine r_iast (pc := 136) (j := 0) rfl dX12_bore_136 hF (fun M10 hF => ?_)
                        refine r_aload_n (pc := 137) 1 dX12_bore_137 rfl rfl ?_
                        refine gf_X12_25 (pc := 138) (j := 4) rfl dX12_bore_138 ?_
                        refine r_lr (by decide) hF (fun b11 hF => ?_)
                        refine r_iload (pc := 141) 0 dX12_bore_141 rfl ?_
                        refine r_iload (pc := 143) 5 dX12_bore_143 rfl ?_
                        refine r_iast (pc := 145) (j := 0) rfl dX12_bore_145 hF (fun M12 hF => ?_)
                        refine r_aload_n (pc := 146) 1 dX12_bore_146 rfl rfl ?_
                        refine gf_X12_28 (pc := 147) (j := 5) rfl dX12_bore_147 ?_
                        refine r_lr (by decide) hF (fun b13 hF => ?_)
                        refine r_iload (pc := 150) 0 dX12_bore_150 rfl ?_
                        refine r_iload (pc := 152) 6 dX12_bore_152 rfl ?_
                        refine r_iast (pc := 154) (j := 0) rfl dX12_bore_154 hF (fun M14 hF => ?_)
                        refine r_aload_n (pc := 155) 1 dX12_bore_155 rfl rfl ?_
                        refine gf_X12_37 (pc := 156) (j := 6) rfl dX12_bore_156 ?_
                        refine r_lr (by decide) hF (fun b15 hF => ?_)
                        refine r_iload (pc := 159) 0 dX12_bore_159 rfl ?_
                        refine r_iconst (pc := 161) (w := 1) dX12_bore_161 (by decide) ?_
                        refine r_zast (pc := 162) (j := 0) rfl dX12_bore_162 hF (fun M16 hF => ?_)
                        refine r_iconst (pc := 163) (w := 0) dX12_bore_163 (by decide) ?_
                        refine r_istore (pc := 164) (L1 := [(7, .int ((0 : Int32))), (6, .int v1), (0, .ref a0), (1, .int a1), (2, .int a2), (3, .int a3), (4, .int a4), (5, .int a5)]) dX12_bore_164 (by decide) rfl ?_
                        exact T.sub ((w_X12_bore_p166 (w_X12_bore_p199) FU) M16 a0 a2 v1 (0 : Int32) hF) [7] [2, 4, 1, 0] rfl rfl
                      · exact T.sub ((w_X12_bore_p76) M a0 hF) [0] [0] rfl rfl
          · exact T.sub ((w_X12_bore_p25) M a0 hF) [0] [0] rfl rfl
theorem k_X12_bore (G : EG) (M : Mem) (a0 : Nat) (a1 : Int32) (a2 : Int32) (a3 : Int32) (a4 : Int32) (a5 : Int32) (q : Mem × Int32) (h : F_X12_bore M a0 a1 a2 a3 a4 a5 = some q) : Kt yX12_bore P_X12_bore M [(a0, 14)] [.ref a0, .int a1, .int a2, .int a3, .int a4, .int a5] (RI G q) := Kt.of (by decide +kernel) rfl (Nat.le_of_ble_eq_true rfl) rfl (fun X hz => w_X12_bore M a0 a1 a2 a3 a4 a5 h)
set_option maxHeartbeats 4000000 in
theorem w_X12_cold_p24 {X : Option Cx} {G : EG} {res : Mem × Int32} : ∀ (M : Mem) (y0 : Int32) (y1 : Nat) (y2 : Int32), F_X12_cold_p24 M y0 y1 y2 = some res → T X (RI G res) P_X12_cold M [(y1, 14)] [] [.int y2, .ref y1, .int y0] 24 := by
  intro M y0 y1 y2 hF
  unfold F_X12_cold_p24 at hF
  refine r_callV_I (pc := 24) (Py := P_X12_refuse) (n := 1) (As := [.int y2]) (fun q e => k_X12_refuse G _ y1 y2 q e) (c := 13) (Tb := TX12) (N := 58) rfl (by decide) (j0 := 0) rfl tw_1266 tw_1268 tw_28 tw_70 tw_1269 hd_X12_refuse ⟨Nat.le_of_ble_eq_true rfl, Nat.le_of_ble_eq_true rfl⟩ rfl [0] rfl rfl (Nat.le_of_ble_eq_true rfl) dX12_cold_24 hF (fun M1 r2 hF => ?_)
  refine r_isub (pc := 27) dX12_cold_27 ?_
  exact r_iret (pc := 28) dX12_cold_28 hF
set_option maxHeartbeats 4000000 in
theorem w_X12_cold_p10 {X : Option Cx} {G : EG} {res : Mem × Int32} : ∀ (M : Mem) (x0 : Nat) (x1 : Int32), F_X12_cold_p10 M x0 x1 = some res → T X (RI G res) P_X12_cold M [(x0, 14)] [(0, .ref x0), (1, .int x1)] [] 10 := by
  intro M x0 x1 hF
  unfold F_X12_cold_p10 at hF
  refine r_ldc (pc := 10) (w := 1000000000) tw_1387 dX12_cold_10 ?_
  refine r_aload_n (pc := 12) 0 dX12_cold_12 rfl rfl ?_
  refine r_iload_n (pc := 13) 1 dX12_cold_13 rfl rfl ?_
  refine r_if_ge (pc := 14) (tgt := 22) dX12_cold_14 rfl hF (fun hF => ?_) (fun hF => ?_)
  · refine r_bipush (pc := 22) (w := -6) dX12_cold_22 (by decide) ?_
    exact T.sub ((w_X12_cold_p24) M (1000000000 : Int32) x0 (-6 : Int32) hF) [0] [] rfl rfl
  · refine r_bipush (pc := 17) (w := -4) dX12_cold_17 (by decide) ?_
    refine r_goto (pc := 19) (tgt := 24) dX12_cold_19 rfl ?_
    exact T.sub ((w_X12_cold_p24) M (1000000000 : Int32) x0 (-4 : Int32) hF) [0] [] rfl rfl
set_option maxHeartbeats 4000000 in
theorem w_X12_cold_p57 {X : Option Cx} {G : EG} {res : Mem × Int32} : ∀ (M : Mem) (y0 : Int32) (y1 : Nat) (y2 : Int32), F_X12_cold_p57 M y0 y1 y2 = some res → T X (RI G res) P_X12_cold M [(y1, 14)] [] [.int y2, .ref y1, .int y0] 57 := by
  intro M y0 y1 y2 hF
  unfold F_X12_cold_p57 at hF
  refine r_callV_I (pc := 57) (Py := P_X12_refuse) (n := 1) (As := [.int y2]) (fun q e => k_X12_refuse G _ y1 y2 q e) (c := 13) (Tb := TX12) (N := 58) rfl (by decide) (j0 := 0) rfl tw_1266 tw_1268 tw_28 tw_70 tw_1269 hd_X12_refuse ⟨Nat.le_of_ble_eq_true rfl, Nat.le_of_ble_eq_true rfl⟩ rfl [0] rfl rfl (Nat.le_of_ble_eq_true rfl) dX12_cold_57 hF (fun M1 r2 hF => ?_)
  refine r_isub (pc := 60) dX12_cold_60 ?_
  exact r_iret (pc := 61) dX12_cold_61 hF
set_option maxHeartbeats 4000000 in
theorem w_X12_cold_p41 {X : Option Cx} {G : EG} {res : Mem × Int32} : ∀ (M : Mem) (x0 : Nat) (x2 : Int32), F_X12_cold_p41 M x0 x2 = some res → T X (RI G res) P_X12_cold M [(x0, 14)] [(0, .ref x0), (2, .int x2)] [] 41 := by
  intro M x0 x2 hF
  unfold F_X12_cold_p41 at hF
  refine r_ldc (pc := 41) (w := 1000000000) tw_1387 dX12_cold_41 ?_
  refine r_aload_n (pc := 43) 0 dX12_cold_43 rfl rfl ?_
  refine r_iload_n (pc := 44) 1 dX12_cold_44 rfl rfl ?_
  refine r_bipush (pc := 45) (w := -40) dX12_cold_45 (by decide) ?_
  refine r_icmp_ge (pc := 47) (tgt := 55) dX12_cold_47 rfl hF (fun hF => ?_) (fun hF => ?_)
  · refine r_bipush (pc := 55) (w := -6) dX12_cold_55 (by decide) ?_
    exact T.sub ((w_X12_cold_p57) M (1000000000 : Int32) x0 (-6 : Int32) hF) [0] [] rfl rfl
  · refine r_bipush (pc := 50) (w := -4) dX12_cold_50 (by decide) ?_
    refine r_goto (pc := 52) (tgt := 57) dX12_cold_52 rfl ?_
    exact T.sub ((w_X12_cold_p57) M (1000000000 : Int32) x0 (-4 : Int32) hF) [0] [] rfl rfl
set_option maxHeartbeats 4000000 in
theorem w_X12_cold {X : Option Cx} {G : EG} {res : Mem × Int32} (M : Mem) (a0 : Nat) (a1 : Int32) (a2 : Int32) (hF : F_X12_cold M a0 a1 a2 = some res) : T X (RI G res) P_X12_cold M [(a0, 14)] [(0, .ref a0), (1, .int a1), (2, .int a2)] [] 0 := by
  unfold F_X12_cold at hF
  refine r_iload_n (pc := 0) 1 dX12_cold_0 rfl rfl ?_
  refine r_if_lt (pc := 1) (tgt := 10) dX12_cold_1 rfl hF (fun hF => ?_) (fun hF => ?_)
  · exact T.sub ((w_X12_cold_p10) M a0 a1 hF) [0] [0, 1] rfl rfl
  · refine r_iload_n (pc := 4) 1 dX12_cold_4 rfl rfl ?_
    refine r_bipush (pc := 5) (w := 11) dX12_cold_5 (by decide) ?_
    refine r_icmp_le (pc := 7) (tgt := 29) dX12_cold_7 rfl hF (fun hF => ?_) (fun hF => ?_)
    · refine r_iload_n (pc := 29) 2 dX12_cold_29 rfl rfl ?_
      refine r_bipush (pc := 30) (w := -40) dX12_cold_30 (by decide) ?_
      refine r_icmp_lt (pc := 32) (tgt := 41) dX12_cold_32 rfl hF (fun hF => ?_) (fun hF => ?_)
      · exact T.sub ((w_X12_cold_p41) M a0 a2 hF) [0] [0, 2] rfl rfl
      · refine r_iload_n (pc := 35) 2 dX12_cold_35 rfl rfl ?_
        refine r_bipush (pc := 36) (w := 40) dX12_cold_36 (by decide) ?_
        refine r_icmp_le (pc := 38) (tgt := 62) dX12_cold_38 rfl hF (fun hF => ?_) (fun hF => ?_)
        · refine r_aload_n (pc := 62) 0 dX12_cold_62 rfl rfl ?_
          refine gf_X12_63 (pc := 63) (j := 0) rfl dX12_cold_63 ?_
          refine r_lr (by decide) hF (fun b1 hF => ?_)
          refine r_iload_n (pc := 66) 1 dX12_cold_66 rfl rfl ?_
          refine r_iald (pc := 67) (j := 0) rfl dX12_cold_67 hF (fun hF => ?_)
          refine r_gI (pc := 68) hF (fun v2 hF => ?_)
          refine r_istore_n (pc := 68) (L1 := [(3, .int v2), (0, .ref a0), (1, .int a1), (2, .int a2)]) dX12_cold_68 rfl (by decide) rfl ?_
          refine r_aload_n (pc := 69) 1 dX12_cold_69 rfl rfl ?_
          refine gf_X12_63 (pc := 70) (j := 1) rfl dX12_cold_70 ?_
          refine r_lr (by decide) hF (fun b3 hF => ?_)
          refine r_iload_n (pc := 73) 2 dX12_cold_73 rfl rfl ?_
          refine r_iload_n (pc := 74) 3 dX12_cold_74 rfl rfl ?_
          refine r_iast (pc := 75) (j := 0) rfl dX12_cold_75 hF (fun M4 hF => ?_)
          refine r_iload_n (pc := 76) 0 dX12_cold_76 rfl rfl ?_
          exact r_iret (pc := 77) dX12_cold_77 hF
        · exact T.sub ((w_X12_cold_p41) M a0 a2 hF) [0] [0, 2] rfl rfl
    · exact T.sub ((w_X12_cold_p10) M a0 a1 hF) [0] [0, 1] rfl rfl
theorem k_X12_cold (G : EG) (M : Mem) (a0 : Nat) (a1 : Int32) (a2 : Int32) (q : Mem × Int32) (h : F_X12_cold M a0 a1 a2 = some q) : Kt yX12_cold P_X12_cold M [(a0, 14)] [.ref a0, .int a1, .int a2] (RI G q) := Kt.of (by decide +kernel) rfl (Nat.le_of_ble_eq_true rfl) rfl (fun X hz => w_X12_cold M a0 a1 a2 h)
set_option maxHeartbeats 4000000 in
theorem w_X12_here_p24 {X : Option Cx} {G : EG} {res : Mem × Int32} : ∀ (M : Mem) (y0 : Int32), F_X12_here_p24 M y0 = some res → T X (RI G res) P_X12_here M [] [] [.int y0] 24 := by
  intro M y0 hF
  unfold F_X12_here_p24 at hF
  exact r_iret (pc := 24) dX12_here_24 hF
set_option maxHeartbeats 4000000 in
theorem w_X12_here {X : Option Cx} {G : EG} {res : Mem × Int32} (M : Mem) (a0 : Nat) (hF : F_X12_here M a0 = some res) : T X (RI G res) P_X12_here M [(a0, 14)] [(0, .ref a0)] [] 0 := by
  unfold F_X12_here at hF
  refine r_aload_n (pc := 0) 0 dX12_here_0 rfl rfl ?_
  refine gf_X12_229 (pc := 1) (j := 0) rfl dX12_here_1 ?_
  refine r_aload_n (pc := 4) 0 dX12_here_4 rfl rfl ?_
  refine gf_X12_224 (pc := 5) (j := 0) rfl dX12_here_5 ?_
  refine r_icmp_ge (pc := 8) (tgt := 23) dX12_here_8 rfl hF (fun hF => ?_) (fun hF => ?_)
  · refine r_iconst (pc := 23) (w := -1) dX12_here_23 (by decide) ?_
    exact T.sub ((w_X12_here_p24) M (-1 : Int32) hF) [] [] rfl rfl
  · refine r_aload_n (pc := 11) 0 dX12_here_11 rfl rfl ?_
    refine gf_X12_78 (pc := 12) (j := 0) rfl dX12_here_12 ?_
    refine r_lr (by decide) hF (fun b1 hF => ?_)
    refine r_aload_n (pc := 15) 0 dX12_here_15 rfl rfl ?_
    refine gf_X12_229 (pc := 16) (j := 1) rfl dX12_here_16 ?_
    refine r_iald (pc := 19) (j := 0) rfl dX12_here_19 hF (fun hF => ?_)
    refine r_goto (pc := 20) (tgt := 24) dX12_here_20 rfl ?_
    exact T.sub ((w_X12_here_p24) M (gA M b1 (ixn (gI M 1341 a0))) hF) [] [] rfl rfl
theorem k_X12_here (G : EG) (M : Mem) (a0 : Nat) (q : Mem × Int32) (h : F_X12_here M a0 = some q) : Kt yX12_here P_X12_here M [(a0, 14)] [.ref a0] (RI G q) := Kt.of (by decide +kernel) rfl (Nat.le_of_ble_eq_true rfl) rfl (fun X hz => w_X12_here M a0 h)
set_option maxHeartbeats 4000000 in
theorem w_X12_puts {X : Option Cx} {G : EG} {res : Mem × Unit} (M : Mem) (a0 : Nat) (a1 : Int32) (hF : F_X12_puts M a0 a1 = some res) : T X (RV G res) P_X12_puts M [(a0, 14)] [(0, .ref a0), (1, .int a1)] [] 0 := by
  unfold F_X12_puts at hF
  refine r_aload_n (pc := 0) 0 dX12_puts_0 rfl rfl ?_
  refine gf_X12_90 (pc := 1) (j := 0) rfl dX12_puts_1 ?_
  refine r_lr (by decide) hF (fun b1 hF => ?_)
  refine r_bipush (pc := 4) (w := 62) dX12_puts_4 (by decide) ?_
  refine r_aload_n (pc := 6) 0 dX12_puts_6 rfl rfl ?_
  refine gf_X12_232 (pc := 7) (j := 1) rfl dX12_puts_7 ?_
  refine r_imul (pc := 10) dX12_puts_10 ?_
  refine r_aload_n (pc := 11) 0 dX12_puts_11 rfl rfl ?_
  refine gf_X12_235 (pc := 12) (j := 1) rfl dX12_puts_12 ?_
  refine r_iadd (pc := 15) dX12_puts_15 ?_
  refine r_iload_n (pc := 16) 1 dX12_puts_16 rfl rfl ?_
  refine r_iast (pc := 17) (j := 0) rfl dX12_puts_17 hF (fun M2 hF => ?_)
  refine r_aload_n (pc := 18) 0 dX12_puts_18 rfl rfl ?_
  refine r_dup (pc := 19) dX12_puts_19 rfl ?_
  refine gf_X12_235 (pc := 20) (j := 1) rfl dX12_puts_20 ?_
  refine r_iconst (pc := 23) (w := 1) dX12_puts_23 (by decide) ?_
  refine r_iadd (pc := 24) dX12_puts_24 ?_
  refine pf_X12_235 (pc := 25) (j := 1) rfl dX12_puts_25 hF (fun M3 hF => ?_)
  exact r_vret (pc := 28) dX12_puts_28 hF
theorem k_X12_puts (G : EG) (M : Mem) (a0 : Nat) (a1 : Int32) (q : Mem × Unit) (h : F_X12_puts M a0 a1 = some q) : Kt yX12_puts P_X12_puts M [(a0, 14)] [.ref a0, .int a1] (RV G q) := Kt.of (by decide +kernel) rfl (Nat.le_of_ble_eq_true rfl) rfl (fun X hz => w_X12_puts M a0 a1 h)
set_option maxHeartbeats 4000000 in
theorem w_X12_sum_p46 {X : Option Cx} {G : EG} {res : Mem × Unit} {n0 : Nat} {rec : Nat → Mem → Nat → Int32 → Option (Mem × Unit)} (hrec : (∀ (M : Mem) (x : Nat) (d : Int32) (q : Mem × Unit), rec 0 M x d = some q → Kt yX12_sum (P_X12_sum n0) M [(x, 14)] [.ref x, .int d] (RV G q)) ∧ (∀ (M : Mem) (x : Nat) (d : Int32) (q : Mem × Unit), rec 1 M x d = some q → Kt yX12_term (P_X12_term n0) M [(x, 14)] [.ref x, .int d] (RV G q)) ∧ (∀ (M : Mem) (x : Nat) (d : Int32) (q : Mem × Unit), rec 2 M x d = some q → Kt yX12_unit (P_X12_unit n0) M [(x, 14)] [.ref x, .int d] (RV G q)) ∧ (∀ (M : Mem) (x : Nat) (d : Int32) (q : Mem × Unit), rec 3 M x d = some q → Kt yX12_compares (P_X12_compares n0) M [(x, 14)] [.ref x, .int d] (RV G q))) {k5 : Mem → Nat → Int32 → Option (Mem × Unit)} (hk5 : ∀ (M : Mem) (x0 : Nat) (x1 : Int32), k5 M x0 x1 = some res → T X (RV G res) (RX12, cX12_sum, 3, none, 20 + 2 * (n0 + 1), 500 + 60 * (n0 + 1)) M [(x0, 14)] [(0, .ref x0), (1, .int x1)] [] 5) : ∀ (M : Mem) (x0 : Nat) (x1 : Int32) (y0 : Int32), F_X12_sum_p46 rec k5 M x0 x1 y0 = some res → T X (RV G res) (RX12, cX12_sum, 3, none, 20 + 2 * (n0 + 1), 500 + 60 * (n0 + 1)) M [(x0, 14)] [(0, .ref x0), (1, .int x1)] [.int y0] 46 := by
  intro M x0 x1 y0 hF
  unfold F_X12_sum_p46 at hF
  refine r_istore_n (pc := 46) (L1 := [(2, .int y0), (0, .ref x0), (1, .int x1)]) dX12_sum_46 rfl (by decide) rfl ?_
  refine r_aload_n (pc := 47) 1 dX12_sum_47 rfl rfl ?_
  refine r_dup (pc := 48) dX12_sum_48 rfl ?_
  refine gf_X12_229 (pc := 49) (j := 0) rfl dX12_sum_49 ?_
  refine r_iconst (pc := 52) (w := 1) dX12_sum_52 (by decide) ?_
  refine r_iadd (pc := 53) dX12_sum_53 ?_
  refine pf_X12_229 (pc := 54) (j := 0) rfl dX12_sum_54 hF (fun M1 hF => ?_)
  refine r_aload_n (pc := 57) 1 dX12_sum_57 rfl rfl ?_
  refine r_iload_n (pc := 58) 2 dX12_sum_58 rfl rfl ?_
  refine r_callV_V (pc := 59) (Py := P_X12_term n0) (n := 1) (As := [.int x1]) (fun q e => hrec.2.1 _ _ _ q e) (c := 13) (Tb := TX12) (N := 58) rfl (by decide) (j0 := 0) rfl tw_1432 tw_1434 tw_46 tw_70 tw_1435 hd_X12_term ⟨by dsimp only [P_X12_term]; omega, by dsimp only [P_X12_term]; omega⟩ rfl [0] rfl rfl (Nat.le_of_ble_eq_true rfl) dX12_sum_59 hF (fun M2 r3 hF => ?_)
  refine r_aload_n (pc := 62) 1 dX12_sum_62 rfl rfl ?_
  refine r_iload_n (pc := 63) 0 dX12_sum_63 rfl rfl ?_
  refine r_callV_V (pc := 64) (Py := P_X12_puts) (n := 1) (As := [.int y0]) (fun q e => k_X12_puts G _ x0 y0 q e) (c := 13) (Tb := TX12) (N := 58) rfl (by decide) (j0 := 0) rfl tw_1446 tw_1448 tw_49 tw_70 tw_1449 hd_X12_puts ⟨by have h9 : (P_X12_puts).2.2.2.2.1 + 1 ≤ 20 := Nat.le_of_ble_eq_true rfl; omega, by have h9 : 8 + ((P_X12_puts).2.2.1 + 11) + (P_X12_puts).2.2.2.2.2 ≤ 500 := Nat.le_of_ble_eq_true rfl; omega⟩ rfl [0] rfl rfl (Nat.le_of_ble_eq_true rfl) dX12_sum_64 hF (fun M4 r5 hF => ?_)
  refine r_goto (pc := 67) (tgt := 5) dX12_sum_67 rfl ?_
  exact T.sub (hk5 M4 x0 x1 hF) [0] [1, 2] rfl rfl
set_option maxHeartbeats 4000000 in
theorem w_X12_sum_p30 {X : Option Cx} {G : EG} {res : Mem × Unit} {n0 : Nat} {rec : Nat → Mem → Nat → Int32 → Option (Mem × Unit)} (hrec : (∀ (M : Mem) (x : Nat) (d : Int32) (q : Mem × Unit), rec 0 M x d = some q → Kt yX12_sum (P_X12_sum n0) M [(x, 14)] [.ref x, .int d] (RV G q)) ∧ (∀ (M : Mem) (x : Nat) (d : Int32) (q : Mem × Unit), rec 1 M x d = some q → Kt yX12_term (P_X12_term n0) M [(x, 14)] [.ref x, .int d] (RV G q)) ∧ (∀ (M : Mem) (x : Nat) (d : Int32) (q : Mem × Unit), rec 2 M x d = some q → Kt yX12_unit (P_X12_unit n0) M [(x, 14)] [.ref x, .int d] (RV G q)) ∧ (∀ (M : Mem) (x : Nat) (d : Int32) (q : Mem × Unit), rec 3 M x d = some q → Kt yX12_compares (P_X12_compares n0) M [(x, 14)] [.ref x, .int d] (RV G q))) {k5 : Mem → Nat → Int32 → Option (Mem × Unit)} (hk5 : ∀ (M : Mem) (x0 : Nat) (x1 : Int32), k5 M x0 x1 = some res → T X (RV G res) (RX12, cX12_sum, 3, none, 20 + 2 * (n0 + 1), 500 + 60 * (n0 + 1)) M [(x0, 14)] [(0, .ref x0), (1, .int x1)] [] 5) : ∀ (M : Mem) (x0 : Nat) (x1 : Int32), F_X12_sum_p30 rec k5 M x0 x1 = some res → T X (RV G res) (RX12, cX12_sum, 3, none, 20 + 2 * (n0 + 1), 500 + 60 * (n0 + 1)) M [(x0, 14)] [(0, .ref x0), (1, .int x1)] [] 30 := by
  intro M x0 x1 hF
  unfold F_X12_sum_p30 at hF
  refine r_aload_n (pc := 30) 0 dX12_sum_30 rfl rfl ?_
  refine r_callV_I (pc := 31) (Py := P_X12_here) (n := 0) (As := []) (fun q e => k_X12_here G _ x0 q e) (c := 13) (Tb := TX12) (N := 58) rfl (by decide) (j0 := 0) rfl tw_1440 tw_1442 tw_48 tw_70 tw_1443 hd_X12_here ⟨by have h9 : (P_X12_here).2.2.2.2.1 + 1 ≤ 20 := Nat.le_of_ble_eq_true rfl; omega, by have h9 : 8 + ((P_X12_here).2.2.1 + 11) + (P_X12_here).2.2.2.2.2 ≤ 500 := Nat.le_of_ble_eq_true rfl; omega⟩ rfl [0] rfl rfl (Nat.le_of_ble_eq_true rfl) dX12_sum_31 hF (fun M1 r2 hF => ?_)
  refine r_bipush (pc := 34) (w := 43) dX12_sum_34 (by decide) ?_
  refine r_icmp_ne (pc := 36) (tgt := 44) dX12_sum_36 rfl hF (fun hF => ?_) (fun hF => ?_)
  · refine r_bipush (pc := 44) (w := 21) dX12_sum_44 (by decide) ?_
    exact T.sub ((w_X12_sum_p46 hrec hk5) M1 x0 x1 (21 : Int32) hF) [0] [0, 1] rfl rfl
  · refine r_bipush (pc := 39) (w := 20) dX12_sum_39 (by decide) ?_
    refine r_goto (pc := 41) (tgt := 46) dX12_sum_41 rfl ?_
    exact T.sub ((w_X12_sum_p46 hrec hk5) M1 x0 x1 (20 : Int32) hF) [0] [0, 1] rfl rfl
set_option maxHeartbeats 4000000 in
theorem w_X12_sum_p5 {X : Option Cx} {G : EG} {res : Mem × Unit} {n0 : Nat} {rec : Nat → Mem → Nat → Int32 → Option (Mem × Unit)} (hrec : (∀ (M : Mem) (x : Nat) (d : Int32) (q : Mem × Unit), rec 0 M x d = some q → Kt yX12_sum (P_X12_sum n0) M [(x, 14)] [.ref x, .int d] (RV G q)) ∧ (∀ (M : Mem) (x : Nat) (d : Int32) (q : Mem × Unit), rec 1 M x d = some q → Kt yX12_term (P_X12_term n0) M [(x, 14)] [.ref x, .int d] (RV G q)) ∧ (∀ (M : Mem) (x : Nat) (d : Int32) (q : Mem × Unit), rec 2 M x d = some q → Kt yX12_unit (P_X12_unit n0) M [(x, 14)] [.ref x, .int d] (RV G q)) ∧ (∀ (M : Mem) (x : Nat) (d : Int32) (q : Mem × Unit), rec 3 M x d = some q → Kt yX12_compares (P_X12_compares n0) M [(x, 14)] [.ref x, .int d] (RV G q))) {k70 : Mem → Option (Mem × Unit)} (hk70 : ∀ (M : Mem), k70 M = some res → T X (RV G res) (RX12, cX12_sum, 3, none, 20 + 2 * (n0 + 1), 500 + 60 * (n0 + 1)) M [] [] [] 70) : ∀ (n : Nat) (M : Mem) (x0 : Nat) (x1 : Int32), F_X12_sum_p5 rec k70 n M x0 x1 = some res → T X (RV G res) (RX12, cX12_sum, 3, none, 20 + 2 * (n0 + 1), 500 + 60 * (n0 + 1)) M [(x0, 14)] [(0, .ref x0), (1, .int x1)] [] 5 := by
  intro n
  induction n with
  | zero =>
    intro M x0 x1 hF
    cases hF
  | succ n ih =>
    intro M x0 x1 hF
    unfold F_X12_sum_p5 at hF
    refine r_aload_n (pc := 5) 0 dX12_sum_5 rfl rfl ?_
    refine gf_X12_242 (pc := 6) (j := 0) rfl dX12_sum_6 ?_
    refine r_if_ne (pc := 9) (tgt := 70) dX12_sum_9 rfl hF (fun hF => ?_) (fun hF => ?_)
    · exact T.sub (hk70 M hF) [] [] rfl rfl
    · refine r_aload_n (pc := 12) 0 dX12_sum_12 rfl rfl ?_
      refine r_callV_I (pc := 13) (Py := P_X12_here) (n := 0) (As := []) (fun q e => k_X12_here G _ x0 q e) (c := 13) (Tb := TX12) (N := 58) rfl (by decide) (j0 := 0) rfl tw_1440 tw_1442 tw_48 tw_70 tw_1443 hd_X12_here ⟨by have h9 : (P_X12_here).2.2.2.2.1 + 1 ≤ 20 := Nat.le_of_ble_eq_true rfl; omega, by have h9 : 8 + ((P_X12_here).2.2.1 + 11) + (P_X12_here).2.2.2.2.2 ≤ 500 := Nat.le_of_ble_eq_true rfl; omega⟩ rfl [0] rfl rfl (Nat.le_of_ble_eq_true rfl) dX12_sum_13 hF (fun M1 r2 hF => ?_)
      refine r_bipush (pc := 16) (w := 43) dX12_sum_16 (by decide) ?_
      refine r_icmp_eq (pc := 18) (tgt := 30) dX12_sum_18 rfl hF (fun hF => ?_) (fun hF => ?_)
      · exact T.sub ((w_X12_sum_p30 hrec ih) M1 x0 x1 hF) [0] [0, 1] rfl rfl
      · refine r_aload_n (pc := 21) 0 dX12_sum_21 rfl rfl ?_
        refine r_callV_I (pc := 22) (Py := P_X12_here) (n := 0) (As := []) (fun q e => k_X12_here G _ x0 q e) (c := 13) (Tb := TX12) (N := 58) rfl (by decide) (j0 := 0) rfl tw_1440 tw_1442 tw_48 tw_70 tw_1443 hd_X12_here ⟨by have h9 : (P_X12_here).2.2.2.2.1 + 1 ≤ 20 := Nat.le_of_ble_eq_true rfl; omega, by have h9 : 8 + ((P_X12_here).2.2.1 + 11) + (P_X12_here).2.2.2.2.2 ≤ 500 := Nat.le_of_ble_eq_true rfl; omega⟩ rfl [0] rfl rfl (Nat.le_of_ble_eq_true rfl) dX12_sum_22 hF (fun M3 r4 hF => ?_)
        refine r_bipush (pc := 25) (w := 45) dX12_sum_25 (by decide) ?_
        refine r_icmp_ne (pc := 27) (tgt := 70) dX12_sum_27 rfl hF (fun hF => ?_) (fun hF => ?_)
        · exact T.sub (hk70 M3 hF) [] [] rfl rfl
        · exact T.sub ((w_X12_sum_p30 hrec ih) M3 x0 x1 hF) [0] [0, 1] rfl rfl
set_option maxHeartbeats 4000000 in
theorem w_X12_sum_p70 {X : Option Cx} {G : EG} {res : Mem × Unit} {n0 : Nat} {rec : Nat → Mem → Nat → Int32 → Option (Mem × Unit)} (hrec : (∀ (M : Mem) (x : Nat) (d : Int32) (q : Mem × Unit), rec 0 M x d = some q → Kt yX12_sum (P_X12_sum n0) M [(x, 14)] [.ref x, .int d] (RV G q)) ∧ (∀ (M : Mem) (x : Nat) (d : Int32) (q : Mem × Unit), rec 1 M x d = some q → Kt yX12_term (P_X12_term n0) M [(x, 14)] [.ref x, .int d] (RV G q)) ∧ (∀ (M : Mem) (x : Nat) (d : Int32) (q : Mem × Unit), rec 2 M x d = some q → Kt yX12_unit (P_X12_unit n0) M [(x, 14)] [.ref x, .int d] (RV G q)) ∧ (∀ (M : Mem) (x : Nat) (d : Int32) (q : Mem × Unit), rec 3 M x d = some q → Kt yX12_compares (P_X12_compares n0) M [(x, 14)] [.ref x, .int d] (RV G q))) : ∀ (M : Mem), F_X12_sum_p70 rec M = some res → T X (RV G res) (RX12, cX12_sum, 3, none, 20 + 2 * (n0 + 1), 500 + 60 * (n0 + 1)) M [] [] [] 70 := by
  intro M hF
  unfold F_X12_sum_p70 at hF
  exact r_vret (pc := 70) dX12_sum_70 hF
set_option maxHeartbeats 4000000 in
theorem w_X12_sum {X : Option Cx} {G : EG} {res : Mem × Unit} {n0 : Nat} {rec : Nat → Mem → Nat → Int32 → Option (Mem × Unit)} (hrec : (∀ (M : Mem) (x : Nat) (d : Int32) (q : Mem × Unit), rec 0 M x d = some q → Kt yX12_sum (P_X12_sum n0) M [(x, 14)] [.ref x, .int d] (RV G q)) ∧ (∀ (M : Mem) (x : Nat) (d : Int32) (q : Mem × Unit), rec 1 M x d = some q → Kt yX12_term (P_X12_term n0) M [(x, 14)] [.ref x, .int d] (RV G q)) ∧ (∀ (M : Mem) (x : Nat) (d : Int32) (q : Mem × Unit), rec 2 M x d = some q → Kt yX12_unit (P_X12_unit n0) M [(x, 14)] [.ref x, .int d] (RV G q)) ∧ (∀ (M : Mem) (x : Nat) (d : Int32) (q : Mem × Unit), rec 3 M x d = some q → Kt yX12_compares (P_X12_compares n0) M [(x, 14)] [.ref x, .int d] (RV G q))) (M : Mem) (a0 : Nat) (a1 : Int32) (hF : B_X12_sum rec M a0 a1 = some res) : T X (RV G res) (RX12, cX12_sum, 3, none, 20 + 2 * (n0 + 1), 500 + 60 * (n0 + 1)) M [(a0, 14)] [(0, .ref a0), (1, .int a1)] [] 0 := by
  unfold B_X12_sum at hF
  refine r_aload_n (pc := 0) 0 dX12_sum_0 rfl rfl ?_
  refine r_iload_n (pc := 1) 1 dX12_sum_1 rfl rfl ?_
  refine r_callV_V (pc := 2) (Py := P_X12_term n0) (n := 1) (As := [.int a1]) (fun q e => hrec.2.1 _ _ _ q e) (c := 13) (Tb := TX12) (N := 58) rfl (by decide) (j0 := 0) rfl tw_1432 tw_1434 tw_46 tw_70 tw_1435 hd_X12_term ⟨by dsimp only [P_X12_term]; omega, by dsimp only [P_X12_term]; omega⟩ rfl [0] rfl rfl (Nat.le_of_ble_eq_true rfl) dX12_sum_2 hF (fun M1 r2 hF => ?_)
  exact T.sub ((w_X12_sum_p5 hrec (w_X12_sum_p70 hrec) FU) M1 a0 a1 hF) [0] [0, 1] rfl rfl
theorem kb_X12_sum (G : EG) {n0 : Nat} {rec : Nat → Mem → Nat → Int32 → Option (Mem × Unit)} (hrec : (∀ (M : Mem) (x : Nat) (d : Int32) (q : Mem × Unit), rec 0 M x d = some q → Kt yX12_sum (P_X12_sum n0) M [(x, 14)] [.ref x, .int d] (RV G q)) ∧ (∀ (M : Mem) (x : Nat) (d : Int32) (q : Mem × Unit), rec 1 M x d = some q → Kt yX12_term (P_X12_term n0) M [(x, 14)] [.ref x, .int d] (RV G q)) ∧ (∀ (M : Mem) (x : Nat) (d : Int32) (q : Mem × Unit), rec 2 M x d = some q → Kt yX12_unit (P_X12_unit n0) M [(x, 14)] [.ref x, .int d] (RV G q)) ∧ (∀ (M : Mem) (x : Nat) (d : Int32) (q : Mem × Unit), rec 3 M x d = some q → Kt yX12_compares (P_X12_compares n0) M [(x, 14)] [.ref x, .int d] (RV G q))) (M : Mem) (a0 : Nat) (a1 : Int32) (q : Mem × Unit) (h : B_X12_sum rec M a0 a1 = some q) : Kt yX12_sum (P_X12_sum (n0 + 1)) M [(a0, 14)] [.ref a0, .int a1] (RV G q) := Kt.of (by decide +kernel) rfl (Nat.le_of_ble_eq_true rfl) rfl (fun X hz => w_X12_sum hrec M a0 a1 h)
set_option maxHeartbeats 4000000 in
theorem w_X12_term_p46 {X : Option Cx} {G : EG} {res : Mem × Unit} {n0 : Nat} {rec : Nat → Mem → Nat → Int32 → Option (Mem × Unit)} (hrec : (∀ (M : Mem) (x : Nat) (d : Int32) (q : Mem × Unit), rec 0 M x d = some q → Kt yX12_sum (P_X12_sum n0) M [(x, 14)] [.ref x, .int d] (RV G q)) ∧ (∀ (M : Mem) (x : Nat) (d : Int32) (q : Mem × Unit), rec 1 M x d = some q → Kt yX12_term (P_X12_term n0) M [(x, 14)] [.ref x, .int d] (RV G q)) ∧ (∀ (M : Mem) (x : Nat) (d : Int32) (q : Mem × Unit), rec 2 M x d = some q → Kt yX12_unit (P_X12_unit n0) M [(x, 14)] [.ref x, .int d] (RV G q)) ∧ (∀ (M : Mem) (x : Nat) (d : Int32) (q : Mem × Unit), rec 3 M x d = some q → Kt yX12_compares (P_X12_compares n0) M [(x, 14)] [.ref x, .int d] (RV G q))) {k5 : Mem → Nat → Int32 → Option (Mem × Unit)} (hk5 : ∀ (M : Mem) (x0 : Nat) (x1 : Int32), k5 M x0 x1 = some res → T X (RV G res) (RX12, cX12_term, 3, none, 20 + 2 * (n0 + 1), 500 + 60 * (n0 + 1)) M [(x0, 14)] [(0, .ref x0), (1, .int x1)] [] 5) : ∀ (M : Mem) (x0 : Nat) (x1 : Int32) (y0 : Int32), F_X12_term_p46 rec k5 M x0 x1 y0 = some res → T X (RV G res) (RX12, cX12_term, 3, none, 20 + 2 * (n0 + 1), 500 + 60 * (n0 + 1)) M [(x0, 14)] [(0, .ref x0), (1, .int x1)] [.int y0] 46 := by
  intro M x0 x1 y0 hF
  unfold F_X12_term_p46 at hF
  refine r_istore_n (pc := 46) (L1 := [(2, .int y0), (0, .ref x0), (1, .int x1)]) dX12_term_46 rfl (by decide) rfl ?_
  refine r_aload_n (pc := 47) 1 dX12_term_47 rfl rfl ?_
  refine r_dup (pc := 48) dX12_term_48 rfl ?_
  refine gf_X12_229 (pc := 49) (j := 0) rfl dX12_term_49 ?_
  refine r_iconst (pc := 52) (w := 1) dX12_term_52 (by decide) ?_
  refine r_iadd (pc := 53) dX12_term_53 ?_
  refine pf_X12_229 (pc := 54) (j := 0) rfl dX12_term_54 hF (fun M1 hF => ?_)
  refine r_aload_n (pc := 57) 1 dX12_term_57 rfl rfl ?_
  refine r_iload_n (pc := 58) 2 dX12_term_58 rfl rfl ?_
  refine r_callV_V (pc := 59) (Py := P_X12_unit n0) (n := 1) (As := [.int x1]) (fun q e => hrec.2.2.1 _ _ _ q e) (c := 13) (Tb := TX12) (N := 58) rfl (by decide) (j0 := 0) rfl tw_1436 tw_1438 tw_47 tw_70 tw_1439 hd_X12_unit ⟨by dsimp only [P_X12_unit]; omega, by dsimp only [P_X12_unit]; omega⟩ rfl [0] rfl rfl (Nat.le_of_ble_eq_true rfl) dX12_term_59 hF (fun M2 r3 hF => ?_)
  refine r_aload_n (pc := 62) 1 dX12_term_62 rfl rfl ?_
  refine r_iload_n (pc := 63) 0 dX12_term_63 rfl rfl ?_
  refine r_callV_V (pc := 64) (Py := P_X12_puts) (n := 1) (As := [.int y0]) (fun q e => k_X12_puts G _ x0 y0 q e) (c := 13) (Tb := TX12) (N := 58) rfl (by decide) (j0 := 0) rfl tw_1446 tw_1448 tw_49 tw_70 tw_1449 hd_X12_puts ⟨by have h9 : (P_X12_puts).2.2.2.2.1 + 1 ≤ 20 := Nat.le_of_ble_eq_true rfl; omega, by have h9 : 8 + ((P_X12_puts).2.2.1 + 11) + (P_X12_puts).2.2.2.2.2 ≤ 500 := Nat.le_of_ble_eq_true rfl; omega⟩ rfl [0] rfl rfl (Nat.le_of_ble_eq_true rfl) dX12_term_64 hF (fun M4 r5 hF => ?_)
  refine r_goto (pc := 67) (tgt := 5) dX12_term_67 rfl ?_
  exact T.sub (hk5 M4 x0 x1 hF) [0] [1, 2] rfl rfl
set_option maxHeartbeats 4000000 in
theorem w_X12_term_p30 {X : Option Cx} {G : EG} {res : Mem × Unit} {n0 : Nat} {rec : Nat → Mem → Nat → Int32 → Option (Mem × Unit)} (hrec : (∀ (M : Mem) (x : Nat) (d : Int32) (q : Mem × Unit), rec 0 M x d = some q → Kt yX12_sum (P_X12_sum n0) M [(x, 14)] [.ref x, .int d] (RV G q)) ∧ (∀ (M : Mem) (x : Nat) (d : Int32) (q : Mem × Unit), rec 1 M x d = some q → Kt yX12_term (P_X12_term n0) M [(x, 14)] [.ref x, .int d] (RV G q)) ∧ (∀ (M : Mem) (x : Nat) (d : Int32) (q : Mem × Unit), rec 2 M x d = some q → Kt yX12_unit (P_X12_unit n0) M [(x, 14)] [.ref x, .int d] (RV G q)) ∧ (∀ (M : Mem) (x : Nat) (d : Int32) (q : Mem × Unit), rec 3 M x d = some q → Kt yX12_compares (P_X12_compares n0) M [(x, 14)] [.ref x, .int d] (RV G q))) {k5 : Mem → Nat → Int32 → Option (Mem × Unit)} (hk5 : ∀ (M : Mem) (x0 : Nat) (x1 : Int32), k5 M x0 x1 = some res → T X (RV G res) (RX12, cX12_term, 3, none, 20 + 2 * (n0 + 1), 500 + 60 * (n0 + 1)) M [(x0, 14)] [(0, .ref x0), (1, .int x1)] [] 5) : ∀ (M : Mem) (x0 : Nat) (x1 : Int32), F_X12_term_p30 rec k5 M x0 x1 = some res → T X (RV G res) (RX12, cX12_term, 3, none, 20 + 2 * (n0 + 1), 500 + 60 * (n0 + 1)) M [(x0, 14)] [(0, .ref x0), (1, .int x1)] [] 30 := by
  intro M x0 x1 hF
  unfold F_X12_term_p30 at hF
  refine r_aload_n (pc := 30) 0 dX12_term_30 rfl rfl ?_
  refine r_callV_I (pc := 31) (Py := P_X12_here) (n := 0) (As := []) (fun q e => k_X12_here G _ x0 q e) (c := 13) (Tb := TX12) (N := 58) rfl (by decide) (j0 := 0) rfl tw_1440 tw_1442 tw_48 tw_70 tw_1443 hd_X12_here ⟨by have h9 : (P_X12_here).2.2.2.2.1 + 1 ≤ 20 := Nat.le_of_ble_eq_true rfl; omega, by have h9 : 8 + ((P_X12_here).2.2.1 + 11) + (P_X12_here).2.2.2.2.2 ≤ 500 := Nat.le_of_ble_eq_true rfl; omega⟩ rfl [0] rfl rfl (Nat.le_of_ble_eq_true rfl) dX12_term_31 hF (fun M1 r2 hF => ?_)
  refine r_bipush (pc := 34) (w := 42) dX12_term_34 (by decide) ?_
  refine r_icmp_ne (pc := 36) (tgt := 44) dX12_term_36 rfl hF (fun hF => ?_) (fun hF => ?_)
  · refine r_bipush (pc := 44) (w := 23) dX12_term_44 (by decide) ?_
    exact T.sub ((w_X12_term_p46 hrec hk5) M1 x0 x1 (23 : Int32) hF) [0] [0, 1] rfl rfl
  · refine r_bipush (pc := 39) (w := 22) dX12_term_39 (by decide) ?_
    refine r_goto (pc := 41) (tgt := 46) dX12_term_41 rfl ?_
    exact T.sub ((w_X12_term_p46 hrec hk5) M1 x0 x1 (22 : Int32) hF) [0] [0, 1] rfl rfl
set_option maxHeartbeats 4000000 in
theorem w_X12_term_p5 {X : Option Cx} {G : EG} {res : Mem × Unit} {n0 : Nat} {rec : Nat → Mem → Nat → Int32 → Option (Mem × Unit)} (hrec : (∀ (M : Mem) (x : Nat) (d : Int32) (q : Mem × Unit), rec 0 M x d = some q → Kt yX12_sum (P_X12_sum n0) M [(x, 14)] [.ref x, .int d] (RV G q)) ∧ (∀ (M : Mem) (x : Nat) (d : Int32) (q : Mem × Unit), rec 1 M x d = some q → Kt yX12_term (P_X12_term n0) M [(x, 14)] [.ref x, .int d] (RV G q)) ∧ (∀ (M : Mem) (x : Nat) (d : Int32) (q : Mem × Unit), rec 2 M x d = some q → Kt yX12_unit (P_X12_unit n0) M [(x, 14)] [.ref x, .int d] (RV G q)) ∧ (∀ (M : Mem) (x : Nat) (d : Int32) (q : Mem × Unit), rec 3 M x d = some q → Kt yX12_compares (P_X12_compares n0) M [(x, 14)] [.ref x, .int d] (RV G q))) {k70 : Mem → Option (Mem × Unit)} (hk70 : ∀ (M : Mem), k70 M = some res → T X (RV G res) (RX12, cX12_term, 3, none, 20 + 2 * (n0 + 1), 500 + 60 * (n0 + 1)) M [] [] [] 70) : ∀ (n : Nat) (M : Mem) (x0 : Nat) (x1 : Int32), F_X12_term_p5 rec k70 n M x0 x1 = some res → T X (RV G res) (RX12, cX12_term, 3, none, 20 + 2 * (n0 + 1), 500 + 60 * (n0 + 1)) M [(x0, 14)] [(0, .ref x0), (1, .int x1)] [] 5 := by
  intro n
  induction n with
  | zero =>
    intro M x0 x1 hF
    cases hF
  | succ n ih =>
    intro M x0 x1 hF
    unfold F_X12_term_p5 at hF
    refine r_aload_n (pc := 5) 0 dX12_term_5 rfl rfl ?_
    refine gf_X12_242 (pc := 6) (j := 0) rfl dX12_term_6 ?_
    refine r_if_ne (pc := 9) (tgt := 70) dX12_term_9 rfl hF (fun hF => ?_) (fun hF => ?_)
    · exact T.sub (hk70 M hF) [] [] rfl rfl
    · refine r_aload_n (pc := 12) 0 dX12_term_12 rfl rfl ?_
      refine r_callV_I (pc := 13) (Py := P_X12_here) (n := 0) (As := []) (fun q e => k_X12_here G _ x0 q e) (c := 13) (Tb := TX12) (N := 58) rfl (by decide) (j0 := 0) rfl tw_1440 tw_1442 tw_48 tw_70 tw_1443 hd_X12_here ⟨by have h9 : (P_X12_here).2.2.2.2.1 + 1 ≤ 20 := Nat.le_of_ble_eq_true rfl; omega, by have h9 : 8 + ((P_X12_here).2.2.1 + 11) + (P_X12_here).2.2.2.2.2 ≤ 500 := Nat.le_of_ble_eq_true rfl; omega⟩ rfl [0] rfl rfl (Nat.le_of_ble_eq_true rfl) dX12_term_13 hF (fun M1 r2 hF => ?_)
      refine r_bipush (pc := 16) (w := 42) dX12_term_16 (by decide) ?_
      refine r_icmp_eq (pc := 18) (tgt := 30) dX12_term_18 rfl hF (fun hF => ?_) (fun hF => ?_)
      · exact T.sub ((w_X12_term_p30 hrec ih) M1 x0 x1 hF) [0] [0, 1] rfl rfl
      · refine r_aload_n (pc := 21) 0 dX12_term_21 rfl rfl ?_
        refine r_callV_I (pc := 22) (Py := P_X12_here) (n := 0) (As := []) (fun q e => k_X12_here G _ x0 q e) (c := 13) (Tb := TX12) (N := 58) rfl (by decide) (j0 := 0) rfl tw_1440 tw_1442 tw_48 tw_70 tw_1443 hd_X12_here ⟨by have h9 : (P_X12_here).2.2.2.2.1 + 1 ≤ 20 := Nat.le_of_ble_eq_true rfl; omega, by have h9 : 8 + ((P_X12_here).2.2.1 + 11) + (P_X12_here).2.2.2.2.2 ≤ 500 := Nat.le_of_ble_eq_true rfl; omega⟩ rfl [0] rfl rfl (Nat.le_of_ble_eq_true rfl) dX12_term_22 hF (fun M3 r4 hF => ?_)
        refine r_bipush (pc := 25) (w := 47) dX12_term_25 (by decide) ?_
        refine r_icmp_ne (pc := 27) (tgt := 70) dX12_term_27 rfl hF (fun hF => ?_) (fun hF => ?_)
        · exact T.sub (hk70 M3 hF) [] [] rfl rfl
        · exact T.sub ((w_X12_term_p30 hrec ih) M3 x0 x1 hF) [0] [0, 1] rfl rfl
set_option maxHeartbeats 4000000 in
theorem w_X12_term_p70 {X : Option Cx} {G : EG} {res : Mem × Unit} {n0 : Nat} {rec : Nat → Mem → Nat → Int32 → Option (Mem × Unit)} (hrec : (∀ (M : Mem) (x : Nat) (d : Int32) (q : Mem × Unit), rec 0 M x d = some q → Kt yX12_sum (P_X12_sum n0) M [(x, 14)] [.ref x, .int d] (RV G q)) ∧ (∀ (M : Mem) (x : Nat) (d : Int32) (q : Mem × Unit), rec 1 M x d = some q → Kt yX12_term (P_X12_term n0) M [(x, 14)] [.ref x, .int d] (RV G q)) ∧ (∀ (M : Mem) (x : Nat) (d : Int32) (q : Mem × Unit), rec 2 M x d = some q → Kt yX12_unit (P_X12_unit n0) M [(x, 14)] [.ref x, .int d] (RV G q)) ∧ (∀ (M : Mem) (x : Nat) (d : Int32) (q : Mem × Unit), rec 3 M x d = some q → Kt yX12_compares (P_X12_compares n0) M [(x, 14)] [.ref x, .int d] (RV G q))) : ∀ (M : Mem), F_X12_term_p70 rec M = some res → T X (RV G res) (RX12, cX12_term, 3, none, 20 + 2 * (n0 + 1), 500 + 60 * (n0 + 1)) M [] [] [] 70 := by
  intro M hF
  unfold F_X12_term_p70 at hF
  exact r_vret (pc := 70) dX12_term_70 hF
set_option maxHeartbeats 4000000 in
theorem w_X12_term {X : Option Cx} {G : EG} {res : Mem × Unit} {n0 : Nat} {rec : Nat → Mem → Nat → Int32 → Option (Mem × Unit)} (hrec : (∀ (M : Mem) (x : Nat) (d : Int32) (q : Mem × Unit), rec 0 M x d = some q → Kt yX12_sum (P_X12_sum n0) M [(x, 14)] [.ref x, .int d] (RV G q)) ∧ (∀ (M : Mem) (x : Nat) (d : Int32) (q : Mem × Unit), rec 1 M x d = some q → Kt yX12_term (P_X12_term n0) M [(x, 14)] [.ref x, .int d] (RV G q)) ∧ (∀ (M : Mem) (x : Nat) (d : Int32) (q : Mem × Unit), rec 2 M x d = some q → Kt yX12_unit (P_X12_unit n0) M [(x, 14)] [.ref x, .int d] (RV G q)) ∧ (∀ (M : Mem) (x : Nat) (d : Int32) (q : Mem × Unit), rec 3 M x d = some q → Kt yX12_compares (P_X12_compares n0) M [(x, 14)] [.ref x, .int d] (RV G q))) (M : Mem) (a0 : Nat) (a1 : Int32) (hF : B_X12_term rec M a0 a1 = some res) : T X (RV G res) (RX12, cX12_term, 3, none, 20 + 2 * (n0 + 1), 500 + 60 * (n0 + 1)) M [(a0, 14)] [(0, .ref a0), (1, .int a1)] [] 0 := by
  unfold B_X12_term at hF
  refine r_aload_n (pc := 0) 0 dX12_term_0 rfl rfl ?_
  refine r_iload_n (pc := 1) 1 dX12_term_1 rfl rfl ?_
  refine r_callV_V (pc := 2) (Py := P_X12_unit n0) (n := 1) (As := [.int a1]) (fun q e => hrec.2.2.1 _ _ _ q e) (c := 13) (Tb := TX12) (N := 58) rfl (by decide) (j0 := 0) rfl tw_1436 tw_1438 tw_47 tw_70 tw_1439 hd_X12_unit ⟨by dsimp only [P_X12_unit]; omega, by dsimp only [P_X12_unit]; omega⟩ rfl [0] rfl rfl (Nat.le_of_ble_eq_true rfl) dX12_term_2 hF (fun M1 r2 hF => ?_)
  exact T.sub ((w_X12_term_p5 hrec (w_X12_term_p70 hrec) FU) M1 a0 a1 hF) [0] [0, 1] rfl rfl
theorem kb_X12_term (G : EG) {n0 : Nat} {rec : Nat → Mem → Nat → Int32 → Option (Mem × Unit)} (hrec : (∀ (M : Mem) (x : Nat) (d : Int32) (q : Mem × Unit), rec 0 M x d = some q → Kt yX12_sum (P_X12_sum n0) M [(x, 14)] [.ref x, .int d] (RV G q)) ∧ (∀ (M : Mem) (x : Nat) (d : Int32) (q : Mem × Unit), rec 1 M x d = some q → Kt yX12_term (P_X12_term n0) M [(x, 14)] [.ref x, .int d] (RV G q)) ∧ (∀ (M : Mem) (x : Nat) (d : Int32) (q : Mem × Unit), rec 2 M x d = some q → Kt yX12_unit (P_X12_unit n0) M [(x, 14)] [.ref x, .int d] (RV G q)) ∧ (∀ (M : Mem) (x : Nat) (d : Int32) (q : Mem × Unit), rec 3 M x d = some q → Kt yX12_compares (P_X12_compares n0) M [(x, 14)] [.ref x, .int d] (RV G q))) (M : Mem) (a0 : Nat) (a1 : Int32) (q : Mem × Unit) (h : B_X12_term rec M a0 a1 = some q) : Kt yX12_term (P_X12_term (n0 + 1)) M [(a0, 14)] [.ref a0, .int a1] (RV G q) := Kt.of (by decide +kernel) rfl (Nat.le_of_ble_eq_true rfl) rfl (fun X hz => w_X12_term hrec M a0 a1 h)
set_option maxHeartbeats 4000000 in
theorem w_X12_unit_p32 {X : Option Cx} {G : EG} {res : Mem × Unit} {n0 : Nat} {rec : Nat → Mem → Nat → Int32 → Option (Mem × Unit)} (hrec : (∀ (M : Mem) (x : Nat) (d : Int32) (q : Mem × Unit), rec 0 M x d = some q → Kt yX12_sum (P_X12_sum n0) M [(x, 14)] [.ref x, .int d] (RV G q)) ∧ (∀ (M : Mem) (x : Nat) (d : Int32) (q : Mem × Unit), rec 1 M x d = some q → Kt yX12_term (P_X12_term n0) M [(x, 14)] [.ref x, .int d] (RV G q)) ∧ (∀ (M : Mem) (x : Nat) (d : Int32) (q : Mem × Unit), rec 2 M x d = some q → Kt yX12_unit (P_X12_unit n0) M [(x, 14)] [.ref x, .int d] (RV G q)) ∧ (∀ (M : Mem) (x : Nat) (d : Int32) (q : Mem × Unit), rec 3 M x d = some q → Kt yX12_compares (P_X12_compares n0) M [(x, 14)] [.ref x, .int d] (RV G q))) {k84 : Mem → Nat → Int32 → Option (Mem × Unit)} (hk84 : ∀ (M : Mem) (x0 : Nat) (x3 : Int32), k84 M x0 x3 = some res → T X (RV G res) (RX12, cX12_unit, 5, none, 20 + 2 * (n0 + 1), 500 + 60 * (n0 + 1)) M [(x0, 14)] [(0, .ref x0), (3, .int x3)] [] 84) : ∀ (n : Nat) (M : Mem) (x0 : Nat) (x3 : Int32) (x4 : Int32), F_X12_unit_p32 rec k84 n M x0 x3 x4 = some res → T X (RV G res) (RX12, cX12_unit, 5, none, 20 + 2 * (n0 + 1), 500 + 60 * (n0 + 1)) M [(x0, 14)] [(0, .ref x0), (3, .int x3), (4, .int x4)] [] 32 := by
  intro n
  induction n with
  | zero =>
    intro M x0 x3 x4 hF
    cases hF
  | succ n ih =>
    intro M x0 x3 x4 hF
    unfold F_X12_unit_p32 at hF
    refine r_iload (pc := 32) 2 dX12_unit_32 rfl ?_
    refine r_iconst (pc := 34) (w := 5) dX12_unit_34 (by decide) ?_
    refine r_icmp_ge (pc := 35) (tgt := 84) dX12_unit_35 rfl hF (fun hF => ?_) (fun hF => ?_)
    · exact T.sub (hk84 M x0 x3 hF) [0] [0, 1] rfl rfl
    · refine r_aload_n (pc := 38) 0 dX12_unit_38 rfl rfl ?_
      refine r_callV_I (pc := 39) (Py := P_X12_here) (n := 0) (As := []) (fun q e => k_X12_here G _ x0 q e) (c := 13) (Tb := TX12) (N := 58) rfl (by decide) (j0 := 0) rfl tw_1440 tw_1442 tw_48 tw_70 tw_1443 hd_X12_here ⟨by have h9 : (P_X12_here).2.2.2.2.1 + 1 ≤ 20 := Nat.le_of_ble_eq_true rfl; omega, by have h9 : 8 + ((P_X12_here).2.2.1 + 11) + (P_X12_here).2.2.2.2.2 ≤ 500 := Nat.le_of_ble_eq_true rfl; omega⟩ rfl [0] rfl rfl (Nat.le_of_ble_eq_true rfl) dX12_unit_39 hF (fun M1 r2 hF => ?_)
      refine r_i2l (pc := 42) dX12_unit_42 ?_
      refine r_ldc2 (pc := 43) (w := 48) tw_1444 dX12_unit_43 ?_
      refine r_ldc2 (pc := 46) (w := 57) tw_1445 dX12_unit_46 ?_
      refine r_callS_I (pc := 49) (Py := P_X12_in) (n := 3) (As := [.long (r2.toInt64), .long ((48 : Int64)), .long ((57 : Int64))]) (fun q e => k_X12_in G _ (r2.toInt64) (48 : Int64) (57 : Int64) q e) tw_1342 tw_1343 tw_70 tw_1344 hd_X12_in ⟨by have h9 : (P_X12_in).2.2.2.2.1 + 1 ≤ 20 := Nat.le_of_ble_eq_true rfl; omega, by have h9 : 8 + ((P_X12_in).2.2.1 + 11) + (P_X12_in).2.2.2.2.2 ≤ 500 := Nat.le_of_ble_eq_true rfl; omega⟩ rfl [] rfl rfl (Nat.le_of_ble_eq_true rfl) dX12_unit_49 hF (fun M3 r4 hF => ?_)
      refine r_if_eq (pc := 52) (tgt := 84) dX12_unit_52 rfl hF (fun hF => ?_) (fun hF => ?_)
      · exact T.sub (hk84 M3 x0 x3 hF) [0] [0, 1] rfl rfl
      · refine r_bipush (pc := 55) (w := 10) dX12_unit_55 (by decide) ?_
        refine r_iload_n (pc := 57) 1 dX12_unit_57 rfl rfl ?_
        refine r_imul (pc := 58) dX12_unit_58 ?_
        refine r_aload_n (pc := 59) 0 dX12_unit_59 rfl rfl ?_
        refine r_callV_I (pc := 60) (Py := P_X12_here) (n := 0) (As := []) (fun q e => k_X12_here G _ x0 q e) (c := 13) (Tb := TX12) (N := 58) rfl (by decide) (j0 := 0) rfl tw_1440 tw_1442 tw_48 tw_70 tw_1443 hd_X12_here ⟨by have h9 : (P_X12_here).2.2.2.2.1 + 1 ≤ 20 := Nat.le_of_ble_eq_true rfl; omega, by have h9 : 8 + ((P_X12_here).2.2.1 + 11) + (P_X12_here).2.2.2.2.2 ≤ 500 := Nat.le_of_ble_eq_true rfl; omega⟩ rfl [0] rfl rfl (Nat.le_of_ble_eq_true rfl) dX12_unit_60 hF (fun M5 r6 hF => ?_)
        refine r_iadd (pc := 63) dX12_unit_63 ?_
        refine r_bipush (pc := 64) (w := 48) dX12_unit_64 (by decide) ?_
        refine r_isub (pc := 66) dX12_unit_66 ?_
        refine r_gI (pc := 67) hF (fun v7 hF => ?_)
        refine r_istore_n (pc := 67) (L1 := [(3, .int v7), (0, .ref x0), (4, .int x4)]) dX12_unit_67 rfl (by decide) rfl ?_
        refine r_aload_n (pc := 68) 1 dX12_unit_68 rfl rfl ?_
        refine r_dup (pc := 69) dX12_unit_69 rfl ?_
        refine gf_X12_229 (pc := 70) (j := 0) rfl dX12_unit_70 ?_
        refine r_iconst (pc := 73) (w := 1) dX12_unit_73 (by decide) ?_
        refine r_iadd (pc := 74) dX12_unit_74 ?_
        refine pf_X12_229 (pc := 75) (j := 0) rfl dX12_unit_75 hF (fun M8 hF => ?_)
        obtain ⟨v9, e9, hF⟩ := bnd_e hF
        refine r_iinc (pc := 78) (w := v9) (k := 2) (L1 := [(4, .int v9), (3, .int v7), (0, .ref x0)]) dX12_unit_78 rfl (by rw [e9]; rfl) (by decide) rfl ?_
        clear e9
        refine r_goto (pc := 81) (tgt := 32) dX12_unit_81 rfl ?_
        exact T.sub (ih M8 x0 v7 v9 hF) [0] [2, 1, 0] rfl rfl
set_option maxHeartbeats 4000000 in
theorem w_X12_unit_p185 {X : Option Cx} {G : EG} {res : Mem × Unit} {n0 : Nat} {rec : Nat → Mem → Nat → Int32 → Option (Mem × Unit)} (hrec : (∀ (M : Mem) (x : Nat) (d : Int32) (q : Mem × Unit), rec 0 M x d = some q → Kt yX12_sum (P_X12_sum n0) M [(x, 14)] [.ref x, .int d] (RV G q)) ∧ (∀ (M : Mem) (x : Nat) (d : Int32) (q : Mem × Unit), rec 1 M x d = some q → Kt yX12_term (P_X12_term n0) M [(x, 14)] [.ref x, .int d] (RV G q)) ∧ (∀ (M : Mem) (x : Nat) (d : Int32) (q : Mem × Unit), rec 2 M x d = some q → Kt yX12_unit (P_X12_unit n0) M [(x, 14)] [.ref x, .int d] (RV G q)) ∧ (∀ (M : Mem) (x : Nat) (d : Int32) (q : Mem × Unit), rec 3 M x d = some q → Kt yX12_compares (P_X12_compares n0) M [(x, 14)] [.ref x, .int d] (RV G q))) : ∀ (M : Mem), F_X12_unit_p185 rec M = some res → T X (RV G res) (RX12, cX12_unit, 5, none, 20 + 2 * (n0 + 1), 500 + 60 * (n0 + 1)) M [] [] [] 185 := by
  intro M hF
  unfold F_X12_unit_p185 at hF
  exact r_vret (pc := 185) dX12_unit_185 hF
set_option maxHeartbeats 4000000 in
theorem w_X12_unit_p84 {X : Option Cx} {G : EG} {res : Mem × Unit} {n0 : Nat} {rec : Nat → Mem → Nat → Int32 → Option (Mem × Unit)} (hrec : (∀ (M : Mem) (x : Nat) (d : Int32) (q : Mem × Unit), rec 0 M x d = some q → Kt yX12_sum (P_X12_sum n0) M [(x, 14)] [.ref x, .int d] (RV G q)) ∧ (∀ (M : Mem) (x : Nat) (d : Int32) (q : Mem × Unit), rec 1 M x d = some q → Kt yX12_term (P_X12_term n0) M [(x, 14)] [.ref x, .int d] (RV G q)) ∧ (∀ (M : Mem) (x : Nat) (d : Int32) (q : Mem × Unit), rec 2 M x d = some q → Kt yX12_unit (P_X12_unit n0) M [(x, 14)] [.ref x, .int d] (RV G q)) ∧ (∀ (M : Mem) (x : Nat) (d : Int32) (q : Mem × Unit), rec 3 M x d = some q → Kt yX12_compares (P_X12_compares n0) M [(x, 14)] [.ref x, .int d] (RV G q))) : ∀ (M : Mem) (x0 : Nat) (x3 : Int32), F_X12_unit_p84 rec M x0 x3 = some res → T X (RV G res) (RX12, cX12_unit, 5, none, 20 + 2 * (n0 + 1), 500 + 60 * (n0 + 1)) M [(x0, 14)] [(0, .ref x0), (3, .int x3)] [] 84 := by
  intro M x0 x3 hF
  unfold F_X12_unit_p84 at hF
  refine r_aload_n (pc := 84) 0 dX12_unit_84 rfl rfl ?_
  refine r_sipush (pc := 85) (w := 1000) dX12_unit_85 (by decide) ?_
  refine r_iload_n (pc := 88) 1 dX12_unit_88 rfl rfl ?_
  refine r_iadd (pc := 89) dX12_unit_89 ?_
  refine r_callV_V (pc := 90) (Py := P_X12_puts) (n := 1) (As := [.int ((1000 : Int32) + x3)]) (fun q e => k_X12_puts G _ x0 ((1000 : Int32) + x3) q e) (c := 13) (Tb := TX12) (N := 58) rfl (by decide) (j0 := 0) rfl tw_1446 tw_1448 tw_49 tw_70 tw_1449 hd_X12_puts ⟨by have h9 : (P_X12_puts).2.2.2.2.1 + 1 ≤ 20 := Nat.le_of_ble_eq_true rfl; omega, by have h9 : 8 + ((P_X12_puts).2.2.1 + 11) + (P_X12_puts).2.2.2.2.2 ≤ 500 := Nat.le_of_ble_eq_true rfl; omega⟩ rfl [0] rfl rfl (Nat.le_of_ble_eq_true rfl) dX12_unit_90 hF (fun M1 r2 hF => ?_)
  refine r_goto (pc := 93) (tgt := 185) dX12_unit_93 rfl ?_
  exact T.sub ((w_X12_unit_p185 hrec) M1 hF) [] [] rfl rfl
set_option maxHeartbeats 4000000 in
theorem w_X12_unit_p136 {X : Option Cx} {G : EG} {res : Mem × Unit} {n0 : Nat} {rec : Nat → Mem → Nat → Int32 → Option (Mem × Unit)} (hrec : (∀ (M : Mem) (x : Nat) (d : Int32) (q : Mem × Unit), rec 0 M x d = some q → Kt yX12_sum (P_X12_sum n0) M [(x, 14)] [.ref x, .int d] (RV G q)) ∧ (∀ (M : Mem) (x : Nat) (d : Int32) (q : Mem × Unit), rec 1 M x d = some q → Kt yX12_term (P_X12_term n0) M [(x, 14)] [.ref x, .int d] (RV G q)) ∧ (∀ (M : Mem) (x : Nat) (d : Int32) (q : Mem × Unit), rec 2 M x d = some q → Kt yX12_unit (P_X12_unit n0) M [(x, 14)] [.ref x, .int d] (RV G q)) ∧ (∀ (M : Mem) (x : Nat) (d : Int32) (q : Mem × Unit), rec 3 M x d = some q → Kt yX12_compares (P_X12_compares n0) M [(x, 14)] [.ref x, .int d] (RV G q))) {k158 : Mem → Nat → Int32 → Option (Mem × Unit)} (hk158 : ∀ (M : Mem) (x0 : Nat) (x3 : Int32), k158 M x0 x3 = some res → T X (RV G res) (RX12, cX12_unit, 5, none, 20 + 2 * (n0 + 1), 500 + 60 * (n0 + 1)) M [(x0, 14)] [(0, .ref x0), (3, .int x3)] [] 158) : ∀ (n : Nat) (M : Mem) (x0 : Nat) (x2 : Int32) (x3 : Int32), F_X12_unit_p136 rec k158 n M x0 x2 x3 = some res → T X (RV G res) (RX12, cX12_unit, 5, none, 20 + 2 * (n0 + 1), 500 + 60 * (n0 + 1)) M [(x0, 14)] [(0, .ref x0), (2, .int x2), (3, .int x3)] [] 136 := by
  intro n
  induction n with
  | zero =>
    intro M x0 x2 x3 hF
    cases hF
  | succ n ih =>
    intro M x0 x2 x3 hF
    unfold F_X12_unit_p136 at hF
    refine r_iload_n (pc := 136) 2 dX12_unit_136 rfl rfl ?_
    refine r_bipush (pc := 137) (w := 9) dX12_unit_137 (by decide) ?_
    refine r_icmp_ge (pc := 139) (tgt := 158) dX12_unit_139 rfl hF (fun hF => ?_) (fun hF => ?_)
    · exact T.sub (hk158 M x0 x3 hF) [0] [0, 2] rfl rfl
    · refine r_aload_n (pc := 142) 0 dX12_unit_142 rfl rfl ?_
      refine gf_X12_106 (pc := 143) (j := 0) rfl dX12_unit_143 ?_
      refine r_lr (by decide) hF (fun b1 hF => ?_)
      refine r_iload_n (pc := 146) 2 dX12_unit_146 rfl rfl ?_
      refine r_iald (pc := 147) (j := 0) rfl dX12_unit_147 hF (fun hF => ?_)
      refine r_iload_n (pc := 148) 1 dX12_unit_148 rfl rfl ?_
      refine r_icmp_eq (pc := 149) (tgt := 158) dX12_unit_149 rfl hF (fun hF => ?_) (fun hF => ?_)
      · exact T.sub (hk158 M x0 x3 hF) [1] [0, 2] rfl rfl
      · obtain ⟨v2, e9, hF⟩ := bnd_e hF
        refine r_iinc (pc := 152) (w := v2) (k := 2) (L1 := [(3, .int v2), (0, .ref x0), (2, .int x2)]) dX12_unit_152 rfl (by rw [e9]; rfl) (by decide) rfl ?_
        clear e9
        refine r_goto (pc := 155) (tgt := 136) dX12_unit_155 rfl ?_
        exact T.sub (ih M x0 x2 v2 hF) [1] [1, 2, 0] rfl rfl
set_option maxHeartbeats 4000000 in
theorem w_X12_unit_p158 {X : Option Cx} {G : EG} {res : Mem × Unit} {n0 : Nat} {rec : Nat → Mem → Nat → Int32 → Option (Mem × Unit)} (hrec : (∀ (M : Mem) (x : Nat) (d : Int32) (q : Mem × Unit), rec 0 M x d = some q → Kt yX12_sum (P_X12_sum n0) M [(x, 14)] [.ref x, .int d] (RV G q)) ∧ (∀ (M : Mem) (x : Nat) (d : Int32) (q : Mem × Unit), rec 1 M x d = some q → Kt yX12_term (P_X12_term n0) M [(x, 14)] [.ref x, .int d] (RV G q)) ∧ (∀ (M : Mem) (x : Nat) (d : Int32) (q : Mem × Unit), rec 2 M x d = some q → Kt yX12_unit (P_X12_unit n0) M [(x, 14)] [.ref x, .int d] (RV G q)) ∧ (∀ (M : Mem) (x : Nat) (d : Int32) (q : Mem × Unit), rec 3 M x d = some q → Kt yX12_compares (P_X12_compares n0) M [(x, 14)] [.ref x, .int d] (RV G q))) : ∀ (M : Mem) (x0 : Nat) (x3 : Int32), F_X12_unit_p158 rec M x0 x3 = some res → T X (RV G res) (RX12, cX12_unit, 5, none, 20 + 2 * (n0 + 1), 500 + 60 * (n0 + 1)) M [(x0, 14)] [(0, .ref x0), (3, .int x3)] [] 158 := by
  intro M x0 x3 hF
  unfold F_X12_unit_p158 at hF
  refine r_iload_n (pc := 158) 1 dX12_unit_158 rfl rfl ?_
  refine r_bipush (pc := 159) (w := 9) dX12_unit_159 (by decide) ?_
  refine r_icmp_ne (pc := 161) (tgt := 170) dX12_unit_161 rfl hF (fun hF => ?_) (fun hF => ?_)
  · refine r_aload_n (pc := 170) 0 dX12_unit_170 rfl rfl ?_
    refine r_dup (pc := 171) dX12_unit_171 rfl ?_
    refine gf_X12_229 (pc := 172) (j := 0) rfl dX12_unit_172 ?_
    refine r_iconst (pc := 175) (w := 1) dX12_unit_175 (by decide) ?_
    refine r_iadd (pc := 176) dX12_unit_176 ?_
    refine pf_X12_229 (pc := 177) (j := 0) rfl dX12_unit_177 hF (fun M1 hF => ?_)
    refine r_aload_n (pc := 180) 0 dX12_unit_180 rfl rfl ?_
    refine r_iload_n (pc := 181) 1 dX12_unit_181 rfl rfl ?_
    refine r_callV_V (pc := 182) (Py := P_X12_puts) (n := 1) (As := [.int x3]) (fun q e => k_X12_puts G _ x0 x3 q e) (c := 13) (Tb := TX12) (N := 58) rfl (by decide) (j0 := 0) rfl tw_1446 tw_1448 tw_49 tw_70 tw_1449 hd_X12_puts ⟨by have h9 : (P_X12_puts).2.2.2.2.1 + 1 ≤ 20 := Nat.le_of_ble_eq_true rfl; omega, by have h9 : 8 + ((P_X12_puts).2.2.1 + 11) + (P_X12_puts).2.2.2.2.2 ≤ 500 := Nat.le_of_ble_eq_true rfl; omega⟩ rfl [0] rfl rfl (Nat.le_of_ble_eq_true rfl) dX12_unit_182 hF (fun M2 r3 hF => ?_)
    exact T.sub ((w_X12_unit_p185 hrec) M2 hF) [] [] rfl rfl
  · refine r_aload_n (pc := 164) 0 dX12_unit_164 rfl rfl ?_
    refine r_iconst (pc := 165) (w := 1) dX12_unit_165 (by decide) ?_
    refine pf_X12_242 (pc := 166) (j := 0) rfl dX12_unit_166 hF (fun M4 hF => ?_)
    exact r_vret (pc := 169) dX12_unit_169 hF
set_option maxHeartbeats 4000000 in
theorem w_X12_unit_p134 {X : Option Cx} {G : EG} {res : Mem × Unit} {n0 : Nat} {rec : Nat → Mem → Nat → Int32 → Option (Mem × Unit)} (hrec : (∀ (M : Mem) (x : Nat) (d : Int32) (q : Mem × Unit), rec 0 M x d = some q → Kt yX12_sum (P_X12_sum n0) M [(x, 14)] [.ref x, .int d] (RV G q)) ∧ (∀ (M : Mem) (x : Nat) (d : Int32) (q : Mem × Unit), rec 1 M x d = some q → Kt yX12_term (P_X12_term n0) M [(x, 14)] [.ref x, .int d] (RV G q)) ∧ (∀ (M : Mem) (x : Nat) (d : Int32) (q : Mem × Unit), rec 2 M x d = some q → Kt yX12_unit (P_X12_unit n0) M [(x, 14)] [.ref x, .int d] (RV G q)) ∧ (∀ (M : Mem) (x : Nat) (d : Int32) (q : Mem × Unit), rec 3 M x d = some q → Kt yX12_compares (P_X12_compares n0) M [(x, 14)] [.ref x, .int d] (RV G q))) : ∀ (M : Mem) (x0 : Nat) (x2 : Int32), F_X12_unit_p134 rec M x0 x2 = some res → T X (RV G res) (RX12, cX12_unit, 5, none, 20 + 2 * (n0 + 1), 500 + 60 * (n0 + 1)) M [(x0, 14)] [(0, .ref x0), (2, .int x2)] [] 134 := by
  intro M x0 x2 hF
  unfold F_X12_unit_p134 at hF
  refine r_iconst (pc := 134) (w := 0) dX12_unit_134 (by decide) ?_
  refine r_istore_n (pc := 135) (L1 := [(3, .int ((0 : Int32))), (0, .ref x0), (2, .int x2)]) dX12_unit_135 rfl (by decide) rfl ?_
  exact T.sub ((w_X12_unit_p136 hrec (w_X12_unit_p158 hrec) FU) M x0 x2 (0 : Int32) hF) [0] [1, 2, 0] rfl rfl
set_option maxHeartbeats 4000000 in
theorem w_X12_unit {X : Option Cx} {G : EG} {res : Mem × Unit} {n0 : Nat} {rec : Nat → Mem → Nat → Int32 → Option (Mem × Unit)} (hrec : (∀ (M : Mem) (x : Nat) (d : Int32) (q : Mem × Unit), rec 0 M x d = some q → Kt yX12_sum (P_X12_sum n0) M [(x, 14)] [.ref x, .int d] (RV G q)) ∧ (∀ (M : Mem) (x : Nat) (d : Int32) (q : Mem × Unit), rec 1 M x d = some q → Kt yX12_term (P_X12_term n0) M [(x, 14)] [.ref x, .int d] (RV G q)) ∧ (∀ (M : Mem) (x : Nat) (d : Int32) (q : Mem × Unit), rec 2 M x d = some q → Kt yX12_unit (P_X12_unit n0) M [(x, 14)] [.ref x, .int d] (RV G q)) ∧ (∀ (M : Mem) (x : Nat) (d : Int32) (q : Mem × Unit), rec 3 M x d = some q → Kt yX12_compares (P_X12_compares n0) M [(x, 14)] [.ref x, .int d] (RV G q))) (M : Mem) (a0 : Nat) (a1 : Int32) (hF : B_X12_unit rec M a0 a1 = some res) : T X (RV G res) (RX12, cX12_unit, 5, none, 20 + 2 * (n0 + 1), 500 + 60 * (n0 + 1)) M [(a0, 14)] [(0, .ref a0), (1, .int a1)] [] 0 := by
  unfold B_X12_unit at hF
  refine r_aload_n (pc := 0) 0 dX12_unit_0 rfl rfl ?_
  refine gf_X12_242 (pc := 1) (j := 0) rfl dX12_unit_1 ?_
  refine r_if_eq (pc := 4) (tgt := 8) dX12_unit_4 rfl hF (fun hF => ?_) (fun hF => ?_)
  · refine r_aload_n (pc := 8) 0 dX12_unit_8 rfl rfl ?_
    refine r_callV_I (pc := 9) (Py := P_X12_here) (n := 0) (As := []) (fun q e => k_X12_here G _ a0 q e) (c := 13) (Tb := TX12) (N := 58) rfl (by decide) (j0 := 0) rfl tw_1440 tw_1442 tw_48 tw_70 tw_1443 hd_X12_here ⟨by have h9 : (P_X12_here).2.2.2.2.1 + 1 ≤ 20 := Nat.le_of_ble_eq_true rfl; omega, by have h9 : 8 + ((P_X12_here).2.2.1 + 11) + (P_X12_here).2.2.2.2.2 ≤ 500 := Nat.le_of_ble_eq_true rfl; omega⟩ rfl [0] rfl rfl (Nat.le_of_ble_eq_true rfl) dX12_unit_9 hF (fun M1 r2 hF => ?_)
    refine r_istore_n (pc := 12) (L1 := [(2, .int r2), (0, .ref a0), (1, .int a1)]) dX12_unit_12 rfl (by decide) rfl ?_
    refine r_iload_n (pc := 13) 0 dX12_unit_13 rfl rfl ?_
    refine r_i2l (pc := 14) dX12_unit_14 ?_
    refine r_ldc2 (pc := 15) (w := 48) tw_1444 dX12_unit_15 ?_
    refine r_ldc2 (pc := 18) (w := 57) tw_1445 dX12_unit_18 ?_
    refine r_callS_I (pc := 21) (Py := P_X12_in) (n := 3) (As := [.long (r2.toInt64), .long ((48 : Int64)), .long ((57 : Int64))]) (fun q e => k_X12_in G _ (r2.toInt64) (48 : Int64) (57 : Int64) q e) tw_1342 tw_1343 tw_70 tw_1344 hd_X12_in ⟨by have h9 : (P_X12_in).2.2.2.2.1 + 1 ≤ 20 := Nat.le_of_ble_eq_true rfl; omega, by have h9 : 8 + ((P_X12_in).2.2.1 + 11) + (P_X12_in).2.2.2.2.2 ≤ 500 := Nat.le_of_ble_eq_true rfl; omega⟩ rfl [] rfl rfl (Nat.le_of_ble_eq_true rfl) dX12_unit_21 hF (fun M3 r4 hF => ?_)
    refine r_if_eq (pc := 24) (tgt := 96) dX12_unit_24 rfl hF (fun hF => ?_) (fun hF => ?_)
    · refine r_iload_n (pc := 96) 0 dX12_unit_96 rfl rfl ?_
      refine r_bipush (pc := 97) (w := 40) dX12_unit_97 (by decide) ?_
      refine r_icmp_ne (pc := 99) (tgt := 134) dX12_unit_99 rfl hF (fun hF => ?_) (fun hF => ?_)
      · exact T.sub ((w_X12_unit_p134 hrec) M3 a0 r2 hF) [0] [1, 0] rfl rfl
      · refine r_iload_n (pc := 102) 2 dX12_unit_102 rfl rfl ?_
        refine r_iconst (pc := 103) (w := 5) dX12_unit_103 (by decide) ?_
        refine r_icmp_ge (pc := 104) (tgt := 134) dX12_unit_104 rfl hF (fun hF => ?_) (fun hF => ?_)
        · exact T.sub ((w_X12_unit_p134 hrec) M3 a0 r2 hF) [0] [1, 0] rfl rfl
        · refine r_aload_n (pc := 107) 1 dX12_unit_107 rfl rfl ?_
          refine r_dup (pc := 108) dX12_unit_108 rfl ?_
          refine gf_X12_229 (pc := 109) (j := 0) rfl dX12_unit_109 ?_
          refine r_iconst (pc := 112) (w := 1) dX12_unit_112 (by decide) ?_
          refine r_iadd (pc := 113) dX12_unit_113 ?_
          refine pf_X12_229 (pc := 114) (j := 0) rfl dX12_unit_114 hF (fun M5 hF => ?_)
          refine r_aload_n (pc := 117) 1 dX12_unit_117 rfl rfl ?_
          refine r_iload_n (pc := 118) 2 dX12_unit_118 rfl rfl ?_
          refine r_iconst (pc := 119) (w := 1) dX12_unit_119 (by decide) ?_
          refine r_iadd (pc := 120) dX12_unit_120 ?_
          refine r_callV_V (pc := 121) (Py := P_X12_sum n0) (n := 1) (As := [.int (a1 + (1 : Int32))]) (fun q e => hrec.1 _ _ _ q e) (c := 13) (Tb := TX12) (N := 58) rfl (by decide) (j0 := 0) rfl tw_1428 tw_1430 tw_45 tw_70 tw_1431 hd_X12_sum ⟨by dsimp only [P_X12_sum]; omega, by dsimp only [P_X12_sum]; omega⟩ rfl [0] rfl rfl (Nat.le_of_ble_eq_true rfl) dX12_unit_121 hF (fun M6 r7 hF => ?_)
          refine r_aload_n (pc := 124) 1 dX12_unit_124 rfl rfl ?_
          refine r_iload_n (pc := 125) 2 dX12_unit_125 rfl rfl ?_
          refine r_iconst (pc := 126) (w := 1) dX12_unit_126 (by decide) ?_
          refine r_iadd (pc := 127) dX12_unit_127 ?_
          refine r_callV_V (pc := 128) (Py := P_X12_compares n0) (n := 1) (As := [.int (a1 + (1 : Int32))]) (fun q e => hrec.2.2.2 _ _ _ q e) (c := 13) (Tb := TX12) (N := 58) rfl (by decide) (j0 := 0) rfl tw_1450 tw_1452 tw_50 tw_70 tw_1453 hd_X12_compares ⟨by dsimp only [P_X12_compares]; omega, by dsimp only [P_X12_compares]; omega⟩ rfl [0] rfl rfl (Nat.le_of_ble_eq_true rfl) dX12_unit_128 hF (fun M8 r9 hF => ?_)
          refine r_goto (pc := 131) (tgt := 185) dX12_unit_131 rfl ?_
          exact T.sub ((w_X12_unit_p185 hrec) M8 hF) [] [] rfl rfl
    · refine r_iconst (pc := 27) (w := 0) dX12_unit_27 (by decide) ?_
      refine r_istore_n (pc := 28) (L1 := [(3, .int ((0 : Int32))), (2, .int r2), (0, .ref a0), (1, .int a1)]) dX12_unit_28 rfl (by decide) rfl ?_
      refine r_iconst (pc := 29) (w := 0) dX12_unit_29 (by decide) ?_
      refine r_istore (pc := 30) (L1 := [(4, .int ((0 : Int32))), (3, .int ((0 : Int32))), (2, .int r2), (0, .ref a0), (1, .int a1)]) dX12_unit_30 (by decide) rfl ?_
      exact T.sub ((w_X12_unit_p32 hrec (w_X12_unit_p84 hrec) FU) M3 a0 (0 : Int32) (0 : Int32) hF) [0] [3, 1, 0] rfl rfl
  · exact r_vret (pc := 7) dX12_unit_7 hF
theorem kb_X12_unit (G : EG) {n0 : Nat} {rec : Nat → Mem → Nat → Int32 → Option (Mem × Unit)} (hrec : (∀ (M : Mem) (x : Nat) (d : Int32) (q : Mem × Unit), rec 0 M x d = some q → Kt yX12_sum (P_X12_sum n0) M [(x, 14)] [.ref x, .int d] (RV G q)) ∧ (∀ (M : Mem) (x : Nat) (d : Int32) (q : Mem × Unit), rec 1 M x d = some q → Kt yX12_term (P_X12_term n0) M [(x, 14)] [.ref x, .int d] (RV G q)) ∧ (∀ (M : Mem) (x : Nat) (d : Int32) (q : Mem × Unit), rec 2 M x d = some q → Kt yX12_unit (P_X12_unit n0) M [(x, 14)] [.ref x, .int d] (RV G q)) ∧ (∀ (M : Mem) (x : Nat) (d : Int32) (q : Mem × Unit), rec 3 M x d = some q → Kt yX12_compares (P_X12_compares n0) M [(x, 14)] [.ref x, .int d] (RV G q))) (M : Mem) (a0 : Nat) (a1 : Int32) (q : Mem × Unit) (h : B_X12_unit rec M a0 a1 = some q) : Kt yX12_unit (P_X12_unit (n0 + 1)) M [(a0, 14)] [.ref a0, .int a1] (RV G q) := Kt.of (by decide +kernel) rfl (Nat.le_of_ble_eq_true rfl) rfl (fun X hz => w_X12_unit hrec M a0 a1 h)
set_option maxHeartbeats 4000000 in
theorem w_X12_compares_p89 {X : Option Cx} {G : EG} {res : Mem × Unit} {n0 : Nat} {rec : Nat → Mem → Nat → Int32 → Option (Mem × Unit)} (hrec : (∀ (M : Mem) (x : Nat) (d : Int32) (q : Mem × Unit), rec 0 M x d = some q → Kt yX12_sum (P_X12_sum n0) M [(x, 14)] [.ref x, .int d] (RV G q)) ∧ (∀ (M : Mem) (x : Nat) (d : Int32) (q : Mem × Unit), rec 1 M x d = some q → Kt yX12_term (P_X12_term n0) M [(x, 14)] [.ref x, .int d] (RV G q)) ∧ (∀ (M : Mem) (x : Nat) (d : Int32) (q : Mem × Unit), rec 2 M x d = some q → Kt yX12_unit (P_X12_unit n0) M [(x, 14)] [.ref x, .int d] (RV G q)) ∧ (∀ (M : Mem) (x : Nat) (d : Int32) (q : Mem × Unit), rec 3 M x d = some q → Kt yX12_compares (P_X12_compares n0) M [(x, 14)] [.ref x, .int d] (RV G q))) : ∀ (M : Mem) (x0 : Nat), F_X12_compares_p89 rec M x0 = some res → T X (RV G res) (RX12, cX12_compares, 3, none, 20 + 2 * (n0 + 1), 500 + 60 * (n0 + 1)) M [(x0, 14)] [(0, .ref x0)] [] 89 := by
  intro M x0 hF
  unfold F_X12_compares_p89 at hF
  refine r_aload_n (pc := 89) 0 dX12_compares_89 rfl rfl ?_
  refine r_iconst (pc := 90) (w := 1) dX12_compares_90 (by decide) ?_
  refine pf_X12_242 (pc := 91) (j := 0) rfl dX12_compares_91 hF (fun M1 hF => ?_)
  exact r_vret (pc := 94) dX12_compares_94 hF
set_option maxHeartbeats 4000000 in
theorem w_X12_compares_p73 {X : Option Cx} {G : EG} {res : Mem × Unit} {n0 : Nat} {rec : Nat → Mem → Nat → Int32 → Option (Mem × Unit)} (hrec : (∀ (M : Mem) (x : Nat) (d : Int32) (q : Mem × Unit), rec 0 M x d = some q → Kt yX12_sum (P_X12_sum n0) M [(x, 14)] [.ref x, .int d] (RV G q)) ∧ (∀ (M : Mem) (x : Nat) (d : Int32) (q : Mem × Unit), rec 1 M x d = some q → Kt yX12_term (P_X12_term n0) M [(x, 14)] [.ref x, .int d] (RV G q)) ∧ (∀ (M : Mem) (x : Nat) (d : Int32) (q : Mem × Unit), rec 2 M x d = some q → Kt yX12_unit (P_X12_unit n0) M [(x, 14)] [.ref x, .int d] (RV G q)) ∧ (∀ (M : Mem) (x : Nat) (d : Int32) (q : Mem × Unit), rec 3 M x d = some q → Kt yX12_compares (P_X12_compares n0) M [(x, 14)] [.ref x, .int d] (RV G q))) : ∀ (M : Mem) (x0 : Nat), F_X12_compares_p73 rec M x0 = some res → T X (RV G res) (RX12, cX12_compares, 3, none, 20 + 2 * (n0 + 1), 500 + 60 * (n0 + 1)) M [(x0, 14)] [(0, .ref x0)] [] 73 := by
  intro M x0 hF
  unfold F_X12_compares_p73 at hF
  refine r_aload_n (pc := 73) 0 dX12_compares_73 rfl rfl ?_
  refine gf_X12_242 (pc := 74) (j := 0) rfl dX12_compares_74 ?_
  refine r_if_ne (pc := 77) (tgt := 89) dX12_compares_77 rfl hF (fun hF => ?_) (fun hF => ?_)
  · exact T.sub ((w_X12_compares_p89 hrec) M x0 hF) [0] [0] rfl rfl
  · refine r_aload_n (pc := 80) 0 dX12_compares_80 rfl rfl ?_
    refine r_callV_I (pc := 81) (Py := P_X12_here) (n := 0) (As := []) (fun q e => k_X12_here G _ x0 q e) (c := 13) (Tb := TX12) (N := 58) rfl (by decide) (j0 := 0) rfl tw_1440 tw_1442 tw_48 tw_70 tw_1443 hd_X12_here ⟨by have h9 : (P_X12_here).2.2.2.2.1 + 1 ≤ 20 := Nat.le_of_ble_eq_true rfl; omega, by have h9 : 8 + ((P_X12_here).2.2.1 + 11) + (P_X12_here).2.2.2.2.2 ≤ 500 := Nat.le_of_ble_eq_true rfl; omega⟩ rfl [0] rfl rfl (Nat.le_of_ble_eq_true rfl) dX12_compares_81 hF (fun M1 r2 hF => ?_)
    refine r_bipush (pc := 84) (w := 41) dX12_compares_84 (by decide) ?_
    refine r_icmp_eq (pc := 86) (tgt := 95) dX12_compares_86 rfl hF (fun hF => ?_) (fun hF => ?_)
    · refine r_aload_n (pc := 95) 0 dX12_compares_95 rfl rfl ?_
      refine r_dup (pc := 96) dX12_compares_96 rfl ?_
      refine gf_X12_229 (pc := 97) (j := 0) rfl dX12_compares_97 ?_
      refine r_iconst (pc := 100) (w := 1) dX12_compares_100 (by decide) ?_
      refine r_iadd (pc := 101) dX12_compares_101 ?_
      refine pf_X12_229 (pc := 102) (j := 0) rfl dX12_compares_102 hF (fun M3 hF => ?_)
      exact r_vret (pc := 105) dX12_compares_105 hF
    · exact T.sub ((w_X12_compares_p89 hrec) M1 x0 hF) [0] [0] rfl rfl
set_option maxHeartbeats 4000000 in
theorem w_X12_compares_p70 {X : Option Cx} {G : EG} {res : Mem × Unit} {n0 : Nat} {rec : Nat → Mem → Nat → Int32 → Option (Mem × Unit)} (hrec : (∀ (M : Mem) (x : Nat) (d : Int32) (q : Mem × Unit), rec 0 M x d = some q → Kt yX12_sum (P_X12_sum n0) M [(x, 14)] [.ref x, .int d] (RV G q)) ∧ (∀ (M : Mem) (x : Nat) (d : Int32) (q : Mem × Unit), rec 1 M x d = some q → Kt yX12_term (P_X12_term n0) M [(x, 14)] [.ref x, .int d] (RV G q)) ∧ (∀ (M : Mem) (x : Nat) (d : Int32) (q : Mem × Unit), rec 2 M x d = some q → Kt yX12_unit (P_X12_unit n0) M [(x, 14)] [.ref x, .int d] (RV G q)) ∧ (∀ (M : Mem) (x : Nat) (d : Int32) (q : Mem × Unit), rec 3 M x d = some q → Kt yX12_compares (P_X12_compares n0) M [(x, 14)] [.ref x, .int d] (RV G q))) : ∀ (M : Mem) (x0 : Nat) (y0 : Nat) (y1 : Int32), F_X12_compares_p70 rec M x0 y0 y1 = some res → T X (RV G res) (RX12, cX12_compares, 3, none, 20 + 2 * (n0 + 1), 500 + 60 * (n0 + 1)) M [(x0, 14), (y0, 14)] [(0, .ref x0)] [.int y1, .ref y0] 70 := by
  intro M x0 y0 y1 hF
  unfold F_X12_compares_p70 at hF
  refine r_callV_V (pc := 70) (Py := P_X12_puts) (n := 1) (As := [.int y1]) (fun q e => k_X12_puts G _ y0 y1 q e) (c := 13) (Tb := TX12) (N := 58) rfl (by decide) (j0 := 1) rfl tw_1446 tw_1448 tw_49 tw_70 tw_1449 hd_X12_puts ⟨by have h9 : (P_X12_puts).2.2.2.2.1 + 1 ≤ 20 := Nat.le_of_ble_eq_true rfl; omega, by have h9 : 8 + ((P_X12_puts).2.2.1 + 11) + (P_X12_puts).2.2.2.2.2 ≤ 500 := Nat.le_of_ble_eq_true rfl; omega⟩ rfl [1] rfl rfl (Nat.le_of_ble_eq_true rfl) dX12_compares_70 hF (fun M1 r2 hF => ?_)
  exact T.sub ((w_X12_compares_p73 hrec) M1 x0 hF) [0] [0] rfl rfl
set_option maxHeartbeats 4000000 in
theorem w_X12_compares_p30 {X : Option Cx} {G : EG} {res : Mem × Unit} {n0 : Nat} {rec : Nat → Mem → Nat → Int32 → Option (Mem × Unit)} (hrec : (∀ (M : Mem) (x : Nat) (d : Int32) (q : Mem × Unit), rec 0 M x d = some q → Kt yX12_sum (P_X12_sum n0) M [(x, 14)] [.ref x, .int d] (RV G q)) ∧ (∀ (M : Mem) (x : Nat) (d : Int32) (q : Mem × Unit), rec 1 M x d = some q → Kt yX12_term (P_X12_term n0) M [(x, 14)] [.ref x, .int d] (RV G q)) ∧ (∀ (M : Mem) (x : Nat) (d : Int32) (q : Mem × Unit), rec 2 M x d = some q → Kt yX12_unit (P_X12_unit n0) M [(x, 14)] [.ref x, .int d] (RV G q)) ∧ (∀ (M : Mem) (x : Nat) (d : Int32) (q : Mem × Unit), rec 3 M x d = some q → Kt yX12_compares (P_X12_compares n0) M [(x, 14)] [.ref x, .int d] (RV G q))) : ∀ (M : Mem) (x0 : Nat) (x1 : Int32) (x2 : Int32), F_X12_compares_p30 rec M x0 x1 x2 = some res → T X (RV G res) (RX12, cX12_compares, 3, none, 20 + 2 * (n0 + 1), 500 + 60 * (n0 + 1)) M [(x0, 14)] [(0, .ref x0), (1, .int x1), (2, .int x2)] [] 30 := by
  intro M x0 x1 x2 hF
  unfold F_X12_compares_p30 at hF
  refine r_aload_n (pc := 30) 0 dX12_compares_30 rfl rfl ?_
  refine r_dup (pc := 31) dX12_compares_31 rfl ?_
  refine gf_X12_229 (pc := 32) (j := 0) rfl dX12_compares_32 ?_
  refine r_iconst (pc := 35) (w := 1) dX12_compares_35 (by decide) ?_
  refine r_iadd (pc := 36) dX12_compares_36 ?_
  refine pf_X12_229 (pc := 37) (j := 0) rfl dX12_compares_37 hF (fun M1 hF => ?_)
  refine r_aload_n (pc := 40) 0 dX12_compares_40 rfl rfl ?_
  refine r_iload_n (pc := 41) 1 dX12_compares_41 rfl rfl ?_
  refine r_callV_V (pc := 42) (Py := P_X12_sum n0) (n := 1) (As := [.int x1]) (fun q e => hrec.1 _ _ _ q e) (c := 13) (Tb := TX12) (N := 58) rfl (by decide) (j0 := 0) rfl tw_1428 tw_1430 tw_45 tw_70 tw_1431 hd_X12_sum ⟨by dsimp only [P_X12_sum]; omega, by dsimp only [P_X12_sum]; omega⟩ rfl [0] rfl rfl (Nat.le_of_ble_eq_true rfl) dX12_compares_42 hF (fun M2 r3 hF => ?_)
  refine r_aload_n (pc := 45) 0 dX12_compares_45 rfl rfl ?_
  refine r_iload_n (pc := 46) 2 dX12_compares_46 rfl rfl ?_
  refine r_bipush (pc := 47) (w := 60) dX12_compares_47 (by decide) ?_
  refine r_icmp_ne (pc := 49) (tgt := 57) dX12_compares_49 rfl hF (fun hF => ?_) (fun hF => ?_)
  · refine r_iload_n (pc := 57) 2 dX12_compares_57 rfl rfl ?_
    refine r_bipush (pc := 58) (w := 61) dX12_compares_58 (by decide) ?_
    refine r_icmp_ne (pc := 60) (tgt := 68) dX12_compares_60 rfl hF (fun hF => ?_) (fun hF => ?_)
    · refine r_bipush (pc := 68) (w := 26) dX12_compares_68 (by decide) ?_
      exact T.sub ((w_X12_compares_p70 hrec) M2 x0 x0 (26 : Int32) hF) [0, 0] [0] rfl rfl
    · refine r_bipush (pc := 63) (w := 25) dX12_compares_63 (by decide) ?_
      refine r_goto (pc := 65) (tgt := 70) dX12_compares_65 rfl ?_
      exact T.sub ((w_X12_compares_p70 hrec) M2 x0 x0 (25 : Int32) hF) [0, 0] [0] rfl rfl
  · refine r_bipush (pc := 52) (w := 24) dX12_compares_52 (by decide) ?_
    refine r_goto (pc := 54) (tgt := 70) dX12_compares_54 rfl ?_
    exact T.sub ((w_X12_compares_p70 hrec) M2 x0 x0 (24 : Int32) hF) [0, 0] [0] rfl rfl
set_option maxHeartbeats 4000000 in
theorem w_X12_compares {X : Option Cx} {G : EG} {res : Mem × Unit} {n0 : Nat} {rec : Nat → Mem → Nat → Int32 → Option (Mem × Unit)} (hrec : (∀ (M : Mem) (x : Nat) (d : Int32) (q : Mem × Unit), rec 0 M x d = some q → Kt yX12_sum (P_X12_sum n0) M [(x, 14)] [.ref x, .int d] (RV G q)) ∧ (∀ (M : Mem) (x : Nat) (d : Int32) (q : Mem × Unit), rec 1 M x d = some q → Kt yX12_term (P_X12_term n0) M [(x, 14)] [.ref x, .int d] (RV G q)) ∧ (∀ (M : Mem) (x : Nat) (d : Int32) (q : Mem × Unit), rec 2 M x d = some q → Kt yX12_unit (P_X12_unit n0) M [(x, 14)] [.ref x, .int d] (RV G q)) ∧ (∀ (M : Mem) (x : Nat) (d : Int32) (q : Mem × Unit), rec 3 M x d = some q → Kt yX12_compares (P_X12_compares n0) M [(x, 14)] [.ref x, .int d] (RV G q))) (M : Mem) (a0 : Nat) (a1 : Int32) (hF : B_X12_compares rec M a0 a1 = some res) : T X (RV G res) (RX12, cX12_compares, 3, none, 20 + 2 * (n0 + 1), 500 + 60 * (n0 + 1)) M [(a0, 14)] [(0, .ref a0), (1, .int a1)] [] 0 := by
  unfold B_X12_compares at hF
  refine r_aload_n (pc := 0) 0 dX12_compares_0 rfl rfl ?_
  refine r_callV_I (pc := 1) (Py := P_X12_here) (n := 0) (As := []) (fun q e => k_X12_here G _ a0 q e) (c := 13) (Tb := TX12) (N := 58) rfl (by decide) (j0 := 0) rfl tw_1440 tw_1442 tw_48 tw_70 tw_1443 hd_X12_here ⟨by have h9 : (P_X12_here).2.2.2.2.1 + 1 ≤ 20 := Nat.le_of_ble_eq_true rfl; omega, by have h9 : 8 + ((P_X12_here).2.2.1 + 11) + (P_X12_here).2.2.2.2.2 ≤ 500 := Nat.le_of_ble_eq_true rfl; omega⟩ rfl [0] rfl rfl (Nat.le_of_ble_eq_true rfl) dX12_compares_1 hF (fun M1 r2 hF => ?_)
  refine r_istore_n (pc := 4) (L1 := [(2, .int r2), (0, .ref a0), (1, .int a1)]) dX12_compares_4 rfl (by decide) rfl ?_
  refine r_aload_n (pc := 5) 1 dX12_compares_5 rfl rfl ?_
  refine gf_X12_242 (pc := 6) (j := 0) rfl dX12_compares_6 ?_
  refine r_if_ne (pc := 9) (tgt := 73) dX12_compares_9 rfl hF (fun hF => ?_) (fun hF => ?_)
  · exact T.sub ((w_X12_compares_p73 hrec) M1 a0 hF) [0] [1] rfl rfl
  · refine r_iload_n (pc := 12) 0 dX12_compares_12 rfl rfl ?_
    refine r_bipush (pc := 13) (w := 60) dX12_compares_13 (by decide) ?_
    refine r_icmp_eq (pc := 15) (tgt := 30) dX12_compares_15 rfl hF (fun hF => ?_) (fun hF => ?_)
    · exact T.sub ((w_X12_compares_p30 hrec) M1 a0 a1 r2 hF) [0] [1, 2, 0] rfl rfl
    · refine r_iload_n (pc := 18) 0 dX12_compares_18 rfl rfl ?_
      refine r_bipush (pc := 19) (w := 61) dX12_compares_19 (by decide) ?_
      refine r_icmp_eq (pc := 21) (tgt := 30) dX12_compares_21 rfl hF (fun hF => ?_) (fun hF => ?_)
      · exact T.sub ((w_X12_compares_p30 hrec) M1 a0 a1 r2 hF) [0] [1, 2, 0] rfl rfl
      · refine r_iload_n (pc := 24) 0 dX12_compares_24 rfl rfl ?_
        refine r_bipush (pc := 25) (w := 62) dX12_compares_25 (by decide) ?_
        refine r_icmp_ne (pc := 27) (tgt := 73) dX12_compares_27 rfl hF (fun hF => ?_) (fun hF => ?_)
        · exact T.sub ((w_X12_compares_p73 hrec) M1 a0 hF) [0] [1] rfl rfl
        · exact T.sub ((w_X12_compares_p30 hrec) M1 a0 a1 r2 hF) [0] [1, 2, 0] rfl rfl
theorem kb_X12_compares (G : EG) {n0 : Nat} {rec : Nat → Mem → Nat → Int32 → Option (Mem × Unit)} (hrec : (∀ (M : Mem) (x : Nat) (d : Int32) (q : Mem × Unit), rec 0 M x d = some q → Kt yX12_sum (P_X12_sum n0) M [(x, 14)] [.ref x, .int d] (RV G q)) ∧ (∀ (M : Mem) (x : Nat) (d : Int32) (q : Mem × Unit), rec 1 M x d = some q → Kt yX12_term (P_X12_term n0) M [(x, 14)] [.ref x, .int d] (RV G q)) ∧ (∀ (M : Mem) (x : Nat) (d : Int32) (q : Mem × Unit), rec 2 M x d = some q → Kt yX12_unit (P_X12_unit n0) M [(x, 14)] [.ref x, .int d] (RV G q)) ∧ (∀ (M : Mem) (x : Nat) (d : Int32) (q : Mem × Unit), rec 3 M x d = some q → Kt yX12_compares (P_X12_compares n0) M [(x, 14)] [.ref x, .int d] (RV G q))) (M : Mem) (a0 : Nat) (a1 : Int32) (q : Mem × Unit) (h : B_X12_compares rec M a0 a1 = some q) : Kt yX12_compares (P_X12_compares (n0 + 1)) M [(a0, 14)] [.ref a0, .int a1] (RV G q) := Kt.of (by decide +kernel) rfl (Nat.le_of_ble_eq_true rfl) rfl (fun X hz => w_X12_compares hrec M a0 a1 h)
theorem kg_X12 (G : EG) : ∀ n : Nat, (∀ (M : Mem) (x : Nat) (d : Int32) (q : Mem × Unit), F_X12_g n 0 M x d = some q → Kt yX12_sum (P_X12_sum n) M [(x, 14)] [.ref x, .int d] (RV G q)) ∧ (∀ (M : Mem) (x : Nat) (d : Int32) (q : Mem × Unit), F_X12_g n 1 M x d = some q → Kt yX12_term (P_X12_term n) M [(x, 14)] [.ref x, .int d] (RV G q)) ∧ (∀ (M : Mem) (x : Nat) (d : Int32) (q : Mem × Unit), F_X12_g n 2 M x d = some q → Kt yX12_unit (P_X12_unit n) M [(x, 14)] [.ref x, .int d] (RV G q)) ∧ (∀ (M : Mem) (x : Nat) (d : Int32) (q : Mem × Unit), F_X12_g n 3 M x d = some q → Kt yX12_compares (P_X12_compares n) M [(x, 14)] [.ref x, .int d] (RV G q)) := by
  intro n
  induction n with
  | zero =>
    refine ⟨?_, ?_, ?_, ?_⟩ <;> (intro M x d q h; cases h)
  | succ n ih => exact ⟨fun M x d q h => kb_X12_sum G ih M x d q h, fun M x d q h => kb_X12_term G ih M x d q h, fun M x d q h => kb_X12_unit G ih M x d q h, fun M x d q h => kb_X12_compares G ih M x d q h⟩
theorem k_X12_sum (G : EG) (M : Mem) (x : Nat) (d : Int32) (q : Mem × Unit) (h : F_X12_g FD 0 M x d = some q) : Kt yX12_sum (P_X12_sum FD) M [(x, 14)] [.ref x, .int d] (RV G q) := (kg_X12 G FD).1 M x d q h
theorem k_X12_term (G : EG) (M : Mem) (x : Nat) (d : Int32) (q : Mem × Unit) (h : F_X12_g FD 1 M x d = some q) : Kt yX12_term (P_X12_term FD) M [(x, 14)] [.ref x, .int d] (RV G q) := (kg_X12 G FD).2.1 M x d q h
theorem k_X12_unit (G : EG) (M : Mem) (x : Nat) (d : Int32) (q : Mem × Unit) (h : F_X12_g FD 2 M x d = some q) : Kt yX12_unit (P_X12_unit FD) M [(x, 14)] [.ref x, .int d] (RV G q) := (kg_X12 G FD).2.2.1 M x d q h
theorem k_X12_compares (G : EG) (M : Mem) (x : Nat) (d : Int32) (q : Mem × Unit) (h : F_X12_g FD 3 M x d = some q) : Kt yX12_compares (P_X12_compares FD) M [(x, 14)] [.ref x, .int d] (RV G q) := (kg_X12 G FD).2.2.2 M x d q h
set_option maxHeartbeats 4000000 in
theorem w_X12_count_p87 {X : Option Cx} {G : EG} {res : Mem × Int32} {k64 : Mem → Nat → Int32 → Int32 → Option (Mem × Int32)} (hk64 : ∀ (M : Mem) (x0 : Nat) (x2 : Int32) (x3 : Int32), k64 M x0 x2 x3 = some res → T X (RI G res) P_X12_count M [(x0, 14)] [(0, .ref x0), (2, .int x2), (3, .int x3)] [] 64) : ∀ (M : Mem) (x0 : Nat) (x3 : Int32) (y0 : Int32) (y1 : Int32), F_X12_count_p87 k64 M x0 x3 y0 y1 = some res → T X (RI G res) P_X12_count M [(x0, 14)] [(0, .ref x0), (3, .int x3)] [.int y1, .int y0] 87 := by
  intro M x0 x3 y0 y1 hF
  unfold F_X12_count_p87 at hF
  refine r_iadd (pc := 87) dX12_count_87 ?_
  refine r_gI (pc := 88) hF (fun v1 hF => ?_)
  refine r_istore_n (pc := 88) (L1 := [(2, .int v1), (0, .ref x0), (3, .int x3)]) dX12_count_88 rfl (by decide) rfl ?_
  obtain ⟨v2, e9, hF⟩ := bnd_e hF
  refine r_iinc (pc := 89) (w := v2) (k := 2) (L1 := [(3, .int v2), (2, .int v1), (0, .ref x0)]) dX12_count_89 rfl (by rw [e9]; rfl) (by decide) rfl ?_
  clear e9
  refine r_goto (pc := 92) (tgt := 64) dX12_count_92 rfl ?_
  exact T.sub (hk64 M x0 v1 v2 hF) [0] [2, 1, 0] rfl rfl
set_option maxHeartbeats 4000000 in
theorem w_X12_count_p64 {X : Option Cx} {G : EG} {res : Mem × Int32} {k95 : Mem → Int32 → Option (Mem × Int32)} (hk95 : ∀ (M : Mem) (x2 : Int32), k95 M x2 = some res → T X (RI G res) P_X12_count M [] [(2, .int x2)] [] 95) : ∀ (n : Nat) (M : Mem) (x0 : Nat) (x2 : Int32) (x3 : Int32), F_X12_count_p64 k95 n M x0 x2 x3 = some res → T X (RI G res) P_X12_count M [(x0, 14)] [(0, .ref x0), (2, .int x2), (3, .int x3)] [] 64 := by
  intro n
  induction n with
  | zero =>
    intro M x0 x2 x3 hF
    cases hF
  | succ n ih =>
    intro M x0 x2 x3 hF
    unfold F_X12_count_p64 at hF
    refine r_iload_n (pc := 64) 2 dX12_count_64 rfl rfl ?_
    refine r_aload_n (pc := 65) 0 dX12_count_65 rfl rfl ?_
    refine gf_X12_154 (pc := 66) (j := 0) rfl dX12_count_66 ?_
    refine r_icmp_ge (pc := 69) (tgt := 95) dX12_count_69 rfl hF (fun hF => ?_) (fun hF => ?_)
    · exact T.sub (hk95 M x2 hF) [] [1] rfl rfl
    · refine r_iload_n (pc := 72) 1 dX12_count_72 rfl rfl ?_
      refine r_aload_n (pc := 73) 0 dX12_count_73 rfl rfl ?_
      refine gf_X12_37 (pc := 74) (j := 0) rfl dX12_count_74 ?_
      refine r_lr (by decide) hF (fun b1 hF => ?_)
      refine r_iload_n (pc := 77) 2 dX12_count_77 rfl rfl ?_
      refine r_zald (pc := 78) (j := 0) rfl dX12_count_78 hF (fun hF => ?_)
      refine r_if_eq (pc := 79) (tgt := 86) dX12_count_79 rfl hF (fun hF => ?_) (fun hF => ?_)
      · refine r_iconst (pc := 86) (w := 0) dX12_count_86 (by decide) ?_
        exact T.sub ((w_X12_count_p87 ih) M x0 x3 x2 (0 : Int32) hF) [1] [0, 2] rfl rfl
      · refine r_iconst (pc := 82) (w := 1) dX12_count_82 (by decide) ?_
        refine r_goto (pc := 83) (tgt := 87) dX12_count_83 rfl ?_
        exact T.sub ((w_X12_count_p87 ih) M x0 x3 x2 (1 : Int32) hF) [1] [0, 2] rfl rfl
set_option maxHeartbeats 4000000 in
theorem w_X12_count_p95 {X : Option Cx} {G : EG} {res : Mem × Int32} : ∀ (M : Mem) (x2 : Int32), F_X12_count_p95 M x2 = some res → T X (RI G res) P_X12_count M [] [(2, .int x2)] [] 95 := by
  intro M x2 hF
  unfold F_X12_count_p95 at hF
  refine r_iload_n (pc := 95) 0 dX12_count_95 rfl rfl ?_
  exact r_iret (pc := 96) dX12_count_96 hF
set_option maxHeartbeats 4000000 in
theorem w_X12_count_p133 {X : Option Cx} {G : EG} {res : Mem × Int32} {k104 : Mem → Nat → Int32 → Int32 → Option (Mem × Int32)} (hk104 : ∀ (M : Mem) (x0 : Nat) (x2 : Int32) (x3 : Int32), k104 M x0 x2 x3 = some res → T X (RI G res) P_X12_count M [(x0, 14)] [(0, .ref x0), (2, .int x2), (3, .int x3)] [] 104) : ∀ (M : Mem) (x0 : Nat) (x3 : Int32) (y0 : Int32) (y1 : Int32), F_X12_count_p133 k104 M x0 x3 y0 y1 = some res → T X (RI G res) P_X12_count M [(x0, 14)] [(0, .ref x0), (3, .int x3)] [.int y1, .int y0] 133 := by
  intro M x0 x3 y0 y1 hF
  unfold F_X12_count_p133 at hF
  refine r_iadd (pc := 133) dX12_count_133 ?_
  refine r_gI (pc := 134) hF (fun v1 hF => ?_)
  refine r_istore_n (pc := 134) (L1 := [(2, .int v1), (0, .ref x0), (3, .int x3)]) dX12_count_134 rfl (by decide) rfl ?_
  obtain ⟨v2, e9, hF⟩ := bnd_e hF
  refine r_iinc (pc := 135) (w := v2) (k := 2) (L1 := [(3, .int v2), (2, .int v1), (0, .ref x0)]) dX12_count_135 rfl (by rw [e9]; rfl) (by decide) rfl ?_
  clear e9
  refine r_goto (pc := 138) (tgt := 104) dX12_count_138 rfl ?_
  exact T.sub (hk104 M x0 v1 v2 hF) [0] [2, 1, 0] rfl rfl
set_option maxHeartbeats 4000000 in
theorem w_X12_count_p104 {X : Option Cx} {G : EG} {res : Mem × Int32} {k141 : Mem → Int32 → Option (Mem × Int32)} (hk141 : ∀ (M : Mem) (x2 : Int32), k141 M x2 = some res → T X (RI G res) P_X12_count M [] [(2, .int x2)] [] 141) : ∀ (n : Nat) (M : Mem) (x0 : Nat) (x2 : Int32) (x3 : Int32), F_X12_count_p104 k141 n M x0 x2 x3 = some res → T X (RI G res) P_X12_count M [(x0, 14)] [(0, .ref x0), (2, .int x2), (3, .int x3)] [] 104 := by
  intro n
  induction n with
  | zero =>
    intro M x0 x2 x3 hF
    cases hF
  | succ n ih =>
    intro M x0 x2 x3 hF
    unfold F_X12_count_p104 at hF
    refine r_iload_n (pc := 104) 2 dX12_count_104 rfl rfl ?_
    refine r_aload_n (pc := 105) 0 dX12_count_105 rfl rfl ?_
    refine gf_X12_196 (pc := 106) (j := 0) rfl dX12_count_106 ?_
    refine r_icmp_ge (pc := 109) (tgt := 141) dX12_count_109 rfl hF (fun hF => ?_) (fun hF => ?_)
    · exact T.sub (hk141 M x2 hF) [] [1] rfl rfl
    · refine r_iload_n (pc := 112) 1 dX12_count_112 rfl rfl ?_
      refine r_aload_n (pc := 113) 0 dX12_count_113 rfl rfl ?_
      refine r_iload_n (pc := 114) 2 dX12_count_114 rfl rfl ?_
      refine r_aload_n (pc := 115) 0 dX12_count_115 rfl rfl ?_
      refine gf_X12_167 (pc := 116) (j := 0) rfl dX12_count_116 ?_
      refine r_bipush (pc := 119) (w := 24) dX12_count_119 (by decide) ?_
      refine r_idivc (pc := 121) dX12_count_121 (by decide) ?_
      refine r_callV_I (pc := 122) (Py := P_X12_isJoined) (n := 2) (As := [.int x3, .int ((gI M 1301 x0) / (24 : Int32))]) (fun q e => k_X12_isJoined G _ x0 x3 ((gI M 1301 x0) / (24 : Int32)) q e) (c := 13) (Tb := TX12) (N := 58) rfl (by decide) (j0 := 0) rfl tw_1286 tw_1288 tw_33 tw_70 tw_1289 hd_X12_isJoined ⟨Nat.le_of_ble_eq_true rfl, Nat.le_of_ble_eq_true rfl⟩ rfl [0] rfl rfl (Nat.le_of_ble_eq_true rfl) dX12_count_122 hF (fun M1 r2 hF => ?_)
      refine r_if_eq (pc := 125) (tgt := 132) dX12_count_125 rfl hF (fun hF => ?_) (fun hF => ?_)
      · refine r_iconst (pc := 132) (w := 0) dX12_count_132 (by decide) ?_
        exact T.sub ((w_X12_count_p133 ih) M1 x0 x3 x2 (0 : Int32) hF) [0] [0, 2] rfl rfl
      · refine r_iconst (pc := 128) (w := 1) dX12_count_128 (by decide) ?_
        refine r_goto (pc := 129) (tgt := 133) dX12_count_129 rfl ?_
        exact T.sub ((w_X12_count_p133 ih) M1 x0 x3 x2 (1 : Int32) hF) [0] [0, 2] rfl rfl
set_option maxHeartbeats 4000000 in
theorem w_X12_count_p141 {X : Option Cx} {G : EG} {res : Mem × Int32} : ∀ (M : Mem) (x2 : Int32), F_X12_count_p141 M x2 = some res → T X (RI G res) P_X12_count M [] [(2, .int x2)] [] 141 := by
  intro M x2 hF
  unfold F_X12_count_p141 at hF
  refine r_iload_n (pc := 141) 0 dX12_count_141 rfl rfl ?_
  exact r_iret (pc := 142) dX12_count_142 hF
set_option maxHeartbeats 4000000 in
theorem w_X12_count_p191 {X : Option Cx} {G : EG} {res : Mem × Int32} : ∀ (M : Mem) (y0 : Int32), F_X12_count_p191 M y0 = some res → T X (RI G res) P_X12_count M [] [] [.int y0] 191 := by
  intro M y0 hF
  unfold F_X12_count_p191 at hF
  exact r_iret (pc := 191) dX12_count_191 hF
set_option maxHeartbeats 4000000 in
theorem w_X12_count {X : Option Cx} {G : EG} {res : Mem × Int32} (M : Mem) (a0 : Nat) (a1 : Int32) (hF : F_X12_count M a0 a1 = some res) : T X (RI G res) P_X12_count M [(a0, 14)] [(0, .ref a0), (1, .int a1)] [] 0 := by
  unfold F_X12_count at hF
  refine r_iconst (pc := 0) (w := 0) dX12_count_0 (by decide) ?_
  refine r_istore_n (pc := 1) (L1 := [(2, .int ((0 : Int32))), (0, .ref a0), (1, .int a1)]) dX12_count_1 rfl (by decide) rfl ?_
  refine r_iload_n (pc := 2) 2 dX12_count_2 rfl rfl ?_
  rcases swi_e (hi := 8) (n := 9) rfl rfl hF with ⟨h9, hF⟩ | ⟨h7, h8, k9, b9, hk9, e9, hb9, hF⟩
  · refine r_tabOut (pc := 3) (tgt := 163) dX12_count_3 h9 rfl ?_
    refine r_iload_n (pc := 163) 2 dX12_count_163 rfl rfl ?_
    refine r_i2l (pc := 164) dX12_count_164 ?_
    refine r_ldc2 (pc := 165) (w := 11) tw_1542 dX12_count_165 ?_
    refine r_ldc2 (pc := 168) (w := 16) tw_1543 dX12_count_168 ?_
    refine r_callS_I (pc := 171) (Py := P_X12_in) (n := 3) (As := [.long (a1.toInt64), .long ((11 : Int64)), .long ((16 : Int64))]) (fun q e => k_X12_in G _ (a1.toInt64) (11 : Int64) (16 : Int64) q e) tw_1342 tw_1343 tw_70 tw_1344 hd_X12_in ⟨Nat.le_of_ble_eq_true rfl, Nat.le_of_ble_eq_true rfl⟩ rfl [] rfl rfl (Nat.le_of_ble_eq_true rfl) dX12_count_171 hF (fun M1 r2 hF => ?_)
    refine r_if_eq (pc := 174) (tgt := 189) dX12_count_174 rfl hF (fun hF => ?_) (fun hF => ?_)
    · refine r_bipush (pc := 189) (w := -9) dX12_count_189 (by decide) ?_
      exact T.sub ((w_X12_count_p191) M1 (-9 : Int32) hF) [] [] rfl rfl
    · refine r_aload_n (pc := 177) 1 dX12_count_177 rfl rfl ?_
      refine gf_X12_7 (pc := 178) (j := 0) rfl dX12_count_178 ?_
      refine r_lr (by decide) hF (fun b3 hF => ?_)
      refine r_iload_n (pc := 181) 2 dX12_count_181 rfl rfl ?_
      refine r_bipush (pc := 182) (w := 10) dX12_count_182 (by decide) ?_
      refine r_isub (pc := 184) dX12_count_184 ?_
      refine r_iald (pc := 185) (j := 0) rfl dX12_count_185 hF (fun hF => ?_)
      refine r_goto (pc := 186) (tgt := 191) dX12_count_186 rfl ?_
      exact T.sub ((w_X12_count_p191) M1 (gA M1 b3 (ixn (a1 - (10 : Int32)))) hF) [] [] rfl rfl
  · rcases (show k9 = 0 ∨ k9 = 1 ∨ k9 = 2 ∨ k9 = 3 ∨ k9 = 4 ∨ k9 = 5 ∨ k9 = 6 ∨ k9 = 7 ∨ k9 = 8 by omega) with rfl | rfl | rfl | rfl | rfl | rfl | rfl | rfl | rfl
    · cases hb9
      refine r_tabIn (pc := 3) (tgt := 52) dX12_count_3 h7 h8 (by rw [e9]; rfl) rfl ?_
      refine r_aload_n (pc := 52) 1 dX12_count_52 rfl rfl ?_
      refine gf_X12_167 (pc := 53) (j := 0) rfl dX12_count_53 ?_
      exact r_iret (pc := 56) dX12_count_56 hF
    · cases hb9
      refine r_tabIn (pc := 3) (tgt := 57) dX12_count_3 h7 h8 (by rw [e9]; rfl) rfl ?_
      refine r_aload_n (pc := 57) 1 dX12_count_57 rfl rfl ?_
      refine gf_X12_154 (pc := 58) (j := 0) rfl dX12_count_58 ?_
      exact r_iret (pc := 61) dX12_count_61 hF
    · cases hb9
      refine r_tabIn (pc := 3) (tgt := 62) dX12_count_3 h7 h8 (by rw [e9]; rfl) rfl ?_
      refine r_iconst (pc := 62) (w := 0) dX12_count_62 (by decide) ?_
      refine r_istore_n (pc := 63) (L1 := [(3, .int ((0 : Int32))), (2, .int ((0 : Int32))), (0, .ref a0), (1, .int a1)]) dX12_count_63 rfl (by decide) rfl ?_
      exact T.sub ((w_X12_count_p64 (w_X12_count_p95) FU) M a0 (0 : Int32) (0 : Int32) hF) [0] [2, 1, 0] rfl rfl
    · cases hb9
      refine r_tabIn (pc := 3) (tgt := 97) dX12_count_3 h7 h8 (by rw [e9]; rfl) rfl ?_
      refine r_aload_n (pc := 97) 1 dX12_count_97 rfl rfl ?_
      refine gf_X12_196 (pc := 98) (j := 0) rfl dX12_count_98 ?_
      exact r_iret (pc := 101) dX12_count_101 hF
    · cases hb9
      refine r_tabIn (pc := 3) (tgt := 102) dX12_count_3 h7 h8 (by rw [e9]; rfl) rfl ?_
      refine r_iconst (pc := 102) (w := 0) dX12_count_102 (by decide) ?_
      refine r_istore_n (pc := 103) (L1 := [(3, .int ((0 : Int32))), (2, .int ((0 : Int32))), (0, .ref a0), (1, .int a1)]) dX12_count_103 rfl (by decide) rfl ?_
      exact T.sub ((w_X12_count_p104 (w_X12_count_p141) FU) M a0 (0 : Int32) (0 : Int32) hF) [0] [2, 1, 0] rfl rfl
    · cases hb9
      refine r_tabIn (pc := 3) (tgt := 143) dX12_count_3 h7 h8 (by rw [e9]; rfl) rfl ?_
      refine r_aload_n (pc := 143) 1 dX12_count_143 rfl rfl ?_
      refine gf_X12_208 (pc := 144) (j := 0) rfl dX12_count_144 ?_
      exact r_iret (pc := 147) dX12_count_147 hF
    · cases hb9
      refine r_tabIn (pc := 3) (tgt := 148) dX12_count_3 h7 h8 (by rw [e9]; rfl) rfl ?_
      refine r_aload_n (pc := 148) 1 dX12_count_148 rfl rfl ?_
      refine gf_X12_232 (pc := 149) (j := 0) rfl dX12_count_149 ?_
      exact r_iret (pc := 152) dX12_count_152 hF
    · cases hb9
      refine r_tabIn (pc := 3) (tgt := 153) dX12_count_3 h7 h8 (by rw [e9]; rfl) rfl ?_
      refine r_aload_n (pc := 153) 1 dX12_count_153 rfl rfl ?_
      refine gf_X12_224 (pc := 154) (j := 0) rfl dX12_count_154 ?_
      exact r_iret (pc := 157) dX12_count_157 hF
    · cases hb9
      refine r_tabIn (pc := 3) (tgt := 158) dX12_count_3 h7 h8 (by rw [e9]; rfl) rfl ?_
      refine r_aload_n (pc := 158) 1 dX12_count_158 rfl rfl ?_
      refine gf_X12_342 (pc := 159) (j := 0) rfl dX12_count_159 ?_
      exact r_iret (pc := 162) dX12_count_162 hF
theorem k_X12_count (G : EG) (M : Mem) (a0 : Nat) (a1 : Int32) (q : Mem × Int32) (h : F_X12_count M a0 a1 = some q) : Kt yX12_count P_X12_count M [(a0, 14)] [.ref a0, .int a1] (RI G q) := Kt.of (by decide +kernel) rfl (Nat.le_of_ble_eq_true rfl) rfl (fun X hz => w_X12_count M a0 a1 h)
