abbrev P_J0_coder_7d493 : MP := (RJ0, cJ0_coder_7d493, 1, (some .byte), 0, 0)
def F_J0_coder_7d493_p14 (M : Mem) (y0 : Int32) : Option (Mem × Int32) :=
  grd (y0 = 0 ∨ y0 = 1) <| some (M, y0)
def F_J0_coder_7d493 (M : Mem) (a0 : Nat) : Option (Mem × Int32) :=
  if (1 : Int32) = 0 then
  F_J0_coder_7d493_p14 M (1 : Int32)
  else
  F_J0_coder_7d493_p14 M (0 : Int32)
abbrev P_J0_isLatin1_aae02 : MP := (RJ0, cJ0_isLatin1_aae02, 1, (some .boolean), 0, 0)
def F_J0_isLatin1_aae02_p18 (M : Mem) (y0 : Int32) : Option (Mem × Int32) :=
  grd (y0 = 0 ∨ y0 = 1) <| some (M, y0)
def F_J0_isLatin1_aae02_p17 (M : Mem) : Option (Mem × Int32) :=
  F_J0_isLatin1_aae02_p18 M (0 : Int32)
def F_J0_isLatin1_aae02 (M : Mem) (a0 : Nat) : Option (Mem × Int32) :=
  if (1 : Int32) = 0 then
  F_J0_isLatin1_aae02_p17 M
  else
  if (0 : Int32) = 0 then
  F_J0_isLatin1_aae02_p18 M (1 : Int32)
  else
  F_J0_isLatin1_aae02_p17 M
abbrev P_J0_length_8abf5 : MP := (RJ0, cJ0_length_8abf5, 1, (some .int), 1, 20)
def F_J0_length_8abf5 (M : Mem) (a0 : Nat) : Option (Mem × Int32) :=
  cl (F_J0_coder_7d493 M a0) fun M1 r2 =>
  some (M1, (Int32.ofNat (slen.getD a0 0)) >>> (r2 &&& 31))
abbrev P_J1_canEncode_9a6ad : MP := (RJ1, cJ1_canEncode_9a6ad, 1, (some .boolean), 0, 0)
def F_J1_canEncode_9a6ad_p16 (M : Mem) (y0 : Int32) : Option (Mem × Int32) :=
  grd (y0 = 0 ∨ y0 = 1) <| some (M, y0)
def F_J1_canEncode_9a6ad_p15 (M : Mem) : Option (Mem × Int32) :=
  F_J1_canEncode_9a6ad_p16 M (0 : Int32)
def F_J1_canEncode_9a6ad (M : Mem) (a0 : Int32) : Option (Mem × Int32) :=
  if a0 < 0 then
  F_J1_canEncode_9a6ad_p15 M
  else
  if (255 : Int32) < a0 then
  F_J1_canEncode_9a6ad_p15 M
  else
  F_J1_canEncode_9a6ad_p16 M (1 : Int32)
abbrev P_J1_indexOfChar_4cfef : MP := (RJ1, cJ1_indexOfChar_4cfef, 6, (some .int), 0, 0)
def F_J1_indexOfChar_4cfef_p7 (k22 : Mem → Int32 → Option (Mem × Int32)) (k31 : Mem → Option (Mem × Int32)) : Nat → Mem → Nat → Int32 → Int32 → Int32 → Option (Mem × Int32)
  | 0, _, _, _, _, _ => none
  | n + 1, M, x0, x3, x4, x5 =>
    if x3 ≤ x5 then
    k31 M
    else
    grd (inb x5 (slen.getD x0 0)) <|
    if ((sbyt.getD x0 []).getD (ixn x5) 0) = x4 then
    k22 M x5
    else
    bnd (x5 + 1) fun v1 =>
    (F_J1_indexOfChar_4cfef_p7 k22 k31 n) M x0 x3 x4 v1
def F_J1_indexOfChar_4cfef_p22 (M : Mem) (x5 : Int32) : Option (Mem × Int32) :=
  some (M, x5)
def F_J1_indexOfChar_4cfef_p31 (M : Mem) : Option (Mem × Int32) :=
  some (M, (-1 : Int32))
def F_J1_indexOfChar_4cfef (M : Mem) (a0 : Nat) (a1 : Int32) (a2 : Int32) (a3 : Int32) : Option (Mem × Int32) :=
  bnd (a1.toInt8.toInt32) fun v1 =>
  (F_J1_indexOfChar_4cfef_p7 F_J1_indexOfChar_4cfef_p22 F_J1_indexOfChar_4cfef_p31 FU) M a0 a3 v1 a2
abbrev P_J1_indexOf_4cfef : MP := (RJ1, cJ1_indexOf_4cfef, 4, (some .int), 1, 30)
def F_J1_indexOf_4cfef (M : Mem) (a0 : Nat) (a1 : Int32) (a2 : Int32) (a3 : Int32) : Option (Mem × Int32) :=
  cl (F_J1_canEncode_9a6ad M a1) fun M1 r2 =>
  if r2 = 0 then
  some (M1, (-1 : Int32))
  else
  bnd (if a2 < (0 : Int32) then (0 : Int32) else a2) fun v3 =>
  bnd (if (Int32.ofNat (slen.getD a0 0)) < a3 then (Int32.ofNat (slen.getD a0 0)) else a3) fun v4 =>
  if v3 < v4 then
  cl (F_J1_indexOfChar_4cfef M1 a0 a1 v3 v4) fun M5 r6 =>
  some (M5, r6)
  else
  some (M1, (-1 : Int32))
abbrev P_J0_indexOf_7cf53 : MP := (RJ0, cJ0_indexOf_7cf53, 3, (some .int), 2, 53)
def F_J0_indexOf_7cf53_p36 (M : Mem) (y0 : Int32) : Option (Mem × Int32) :=
  some (M, y0)
def F_J0_indexOf_7cf53 (M : Mem) (a0 : Nat) (a1 : Int32) (a2 : Int32) : Option (Mem × Int32) :=
  cl (F_J0_isLatin1_aae02 M a0) fun M1 r2 =>
  if r2 = 0 then
  cl (F_J0_length_8abf5 M1 a0) fun M3 r4 =>
  none
  else
  cl (F_J0_length_8abf5 M1 a0) fun M5 r6 =>
  cl (F_J1_indexOf_4cfef M5 a0 a1 a2 r6) fun M7 r8 =>
  F_J0_indexOf_7cf53_p36 M7 r8
abbrev P_J0_indexOf_0f7a4 : MP := (RJ0, cJ0_indexOf_0f7a4, 2, (some .int), 3, 75)
def F_J0_indexOf_0f7a4 (M : Mem) (a0 : Nat) (a1 : Int32) : Option (Mem × Int32) :=
  cl (F_J0_indexOf_7cf53 M a0 a1 (0 : Int32)) fun M1 r2 =>
  some (M1, r2)
abbrev P_J3_checkIndex_8e157 : MP := (RJ3, cJ3_checkIndex_8e157, 3, (some .int), 0, 0)
def F_J3_checkIndex_8e157_p9 (M : Mem) (x0 : Int32) (x1 : Int32) (x2 : Option Nat) : Option (Mem × Int32) :=
  none
def F_J3_checkIndex_8e157 (M : Mem) (a0 : Int32) (a1 : Int32) (a2 : Option Nat) : Option (Mem × Int32) :=
  if a0 < 0 then
  F_J3_checkIndex_8e157_p9 M a0 a1 a2
  else
  if a0 < a1 then
  some (M, a0)
  else
  F_J3_checkIndex_8e157_p9 M a0 a1 a2
abbrev P_J15_checkIndex_7cf53 : MP := (RJ15, cJ15_checkIndex_7cf53, 2, (some .int), 1, 22)
def F_J15_checkIndex_7cf53 (M : Mem) (a0 : Int32) (a1 : Int32) : Option (Mem × Int32) :=
  cl (F_J3_checkIndex_8e157 M a0 a1 none) fun M1 r2 =>
  some (M1, r2)
abbrev P_J6_bitCount_0f7a4 : MP := (RJ6, cJ6_bitCount_0f7a4, 1, (some .int), 0, 0)
def F_J6_bitCount_0f7a4 (M : Mem) (a0 : Int32) : Option (Mem × Int32) :=
  bnd (a0 - (((a0.toUInt32 >>> ((1 : Int32).toUInt32 &&& Int32.toUInt32 31)).toInt32) &&& (1431655765 : Int32))) fun v1 =>
  bnd ((v1 &&& (858993459 : Int32)) + (((v1.toUInt32 >>> ((2 : Int32).toUInt32 &&& Int32.toUInt32 31)).toInt32) &&& (858993459 : Int32))) fun v2 =>
  bnd ((v2 + ((v2.toUInt32 >>> ((4 : Int32).toUInt32 &&& Int32.toUInt32 31)).toInt32)) &&& (252645135 : Int32)) fun v3 =>
  bnd (v3 + ((v3.toUInt32 >>> ((8 : Int32).toUInt32 &&& Int32.toUInt32 31)).toInt32)) fun v4 =>
  bnd (v4 + ((v4.toUInt32 >>> ((16 : Int32).toUInt32 &&& Int32.toUInt32 31)).toInt32)) fun v5 =>
  some (M, v5 &&& (63 : Int32))
abbrev P_J7_copyOf_6403c : MP := (RJ7, cJ7_copyOf_6403c, 4, (some (.array (.object "java/lang/Object"))), 1, 40)
def F_J7_copyOf_6403c_p24 (M : Mem) (x0 : Nat) (x1 : Int32) (y0 : Nat) : Option (Mem × Option Nat) :=
  grd (x0 = gE M ∨ gK M x0 = 23) <|
  grd (gK M x0 = 23) <|
  grd (cpOk M y0 x0 (if x1 < (alE M x0) then x1 else (alE M x0))) <| bnd (cpO M y0 x0 (ixn (if x1 < (alE M x0) then x1 else (alE M x0)))) fun M1 =>
  some (M1, some y0)
def F_J7_copyOf_6403c (M : Mem) (a0 : Nat) (a1 : Int32) : Option (Mem × Option Nat) :=
  grd (0 ≤ a1.toInt ∧ a1.toInt ≤ 10000) <| bnd (gH M) fun b1 => bnd (nA M 23 (ixn a1)) fun M2 =>
  F_J7_copyOf_6403c_p24 M2 a0 a1 b1
abbrev P_J7_copyOf_1904c : MP := (RJ7, cJ7_copyOf_1904c, 2, (some (.array (.object "java/lang/Object"))), 2, 63)
def F_J7_copyOf_1904c (M : Mem) (a0 : Nat) (a1 : Int32) : Option (Mem × Option Nat) :=
  grd (gK M a0 = 23) <|
  cl (F_J7_copyOf_6403c M a0 a1) fun M1 r2 =>
  lr r2 (gK M1) 23 fun b3 =>
  some (M1, some b3)
abbrev P_J8_newLength_cabcc : MP := (RJ8, cJ8_newLength_cabcc, 4, (some .int), 1, 30)
def F_J8_newLength_cabcc_p21 (M : Mem) (x0 : Int32) (x1 : Int32) : Option (Mem × Int32) :=
  none
def F_J8_newLength_cabcc (M : Mem) (a0 : Int32) (a1 : Int32) (a2 : Int32) : Option (Mem × Int32) :=
  bnd (a0 + (if a1 < a2 then a2 else a1)) fun v1 =>
  if v1 ≤ (0 : Int32) then
  F_J8_newLength_cabcc_p21 M a0 a1
  else
  if (2147483639 : Int32) < v1 then
  F_J8_newLength_cabcc_p21 M a0 a1
  else
  some (M, v1)
abbrev P_Jx4a65c_grow_92f84 : MP := (RJx4a65c, cJx4a65c_grow_92f84, 4, (some (.array (.object "java/lang/Object"))), 3, 84)
def F_Jx4a65c_grow_92f84_p20 (M : Mem) (x0 : Nat) (x1 : Int32) (x2 : Int32) : Option (Mem × Option Nat) :=
  cl (F_J8_newLength_cabcc M x2 (x1 - x2) (x2 >>> ((1 : Int32) &&& 31))) fun M1 r2 =>
  nn (gR M1 1 x0) fun b3 =>
  cl (F_J7_copyOf_1904c M1 b3 r2) fun M4 r5 =>
  lr r5 (gK M4) 23 fun b6 =>
  bnd (sR M4 1 x0 (some b6)) fun M7 =>
  some (M7, some b6)
def F_Jx4a65c_grow_92f84 (M : Mem) (a0 : Nat) (a1 : Int32) : Option (Mem × Option Nat) :=
  nn (gR M 1 a0) fun b1 =>
  grd (b1 = gE M ∨ gK M b1 = 23) <|
  bnd (alE M b1) fun v2 =>
  if 0 < v2 then
  F_Jx4a65c_grow_92f84_p20 M a0 a1 v2
  else
  nn (gR M 1 a0) fun b3 =>
  if (some b3 : Option Nat) = some (gE M) then
  grd (0 ≤ (if (10 : Int32) < a1 then a1 else (10 : Int32)).toInt ∧ (if (10 : Int32) < a1 then a1 else (10 : Int32)).toInt ≤ 10000) <| bnd (gH M) fun b4 => bnd (nA M 23 (ixn (if (10 : Int32) < a1 then a1 else (10 : Int32)))) fun M5 =>
  bnd (sR M5 1 a0 (some b4)) fun M6 =>
  some (M6, some b4)
  else
  F_Jx4a65c_grow_92f84_p20 M a0 a1 v2
abbrev P_Jx4a65c_grow_d5877 : MP := (RJx4a65c, cJx4a65c_grow_d5877, 1, (some (.array (.object "java/lang/Object"))), 4, 107)
def F_Jx4a65c_grow_d5877 (M : Mem) (a0 : Nat) : Option (Mem × Option Nat) :=
  cl (F_Jx4a65c_grow_92f84 M a0 ((gI M 2 a0) + (1 : Int32))) fun M1 r2 =>
  lr r2 (gK M1) 23 fun b3 =>
  some (M1, some b3)
abbrev P_Jx4a65c_add_72be8 : MP := (RJx4a65c, cJx4a65c_add_72be8, 4, none, 5, 127)
def F_Jx4a65c_add_72be8_p11 (M : Mem) (x0 : Nat) (x1 : Nat) (x2 : Nat) (x3 : Int32) : Option (Mem × Unit) :=
  grd (gK M x2 = 23) <|
  grd ((inb x3 (gN M x2)) ∧ 1 ≤ gK M x1 ∧ gK M x1 ≤ 14) <| bnd (sO M x2 (ixn x3) (some x1)) fun M1 =>
  bnd (sI M1 2 x0 (x3 + (1 : Int32))) fun M2 =>
  some (M2, ())
def F_Jx4a65c_add_72be8 (M : Mem) (a0 : Nat) (a1 : Nat) (a2 : Nat) (a3 : Int32) : Option (Mem × Unit) :=
  grd (a2 = gE M ∨ gK M a2 = 23) <|
  if a3 = (alE M a2) then
  cl (F_Jx4a65c_grow_d5877 M a0) fun M1 r2 =>
  lr r2 (gK M1) 23 fun b3 =>
  F_Jx4a65c_add_72be8_p11 M1 a0 a1 b3 a3
  else
  F_Jx4a65c_add_72be8_p11 M a0 a1 a2 a3
abbrev P_Jx4a65c_add_9ea2d : MP := (RJx4a65c, cJx4a65c_add_9ea2d, 2, (some .boolean), 6, 150)
def F_Jx4a65c_add_9ea2d (M : Mem) (a0 : Nat) (a1 : Nat) : Option (Mem × Int32) :=
  bnd (sI M 0 a0 ((gI M 0 a0) + (1 : Int32))) fun M1 =>
  nn (gR M1 1 a0) fun b2 =>
  cl (F_Jx4a65c_add_72be8 M1 a0 a1 b2 (gI M1 2 a0)) fun M3 _ =>
  grd ((1 : Int32) = 0 ∨ (1 : Int32) = 1) <| some (M3, (1 : Int32))
abbrev P_Jx4a65c_elementData_915e3 : MP := (RJx4a65c, cJx4a65c_elementData_915e3, 2, (some (.object "java/lang/Object")), 0, 0)
def F_Jx4a65c_elementData_915e3 (M : Mem) (a0 : Nat) (a1 : Int32) : Option (Mem × Option Nat) :=
  nn (gR M 1 a0) fun b1 =>
  grd (gK M b1 = 23) <|
  grd (inb a1 (gN M b1)) <|
  some (M, gO M b1 (ixn a1))
abbrev P_Jx4a65c_get_915e3 : MP := (RJx4a65c, cJx4a65c_get_915e3, 2, (some (.object "java/lang/Object")), 2, 43)
def F_Jx4a65c_get_915e3 (M : Mem) (a0 : Nat) (a1 : Int32) : Option (Mem × Option Nat) :=
  cl (F_J15_checkIndex_7cf53 M a1 (gI M 2 a0)) fun M1 r2 =>
  cl (F_Jx4a65c_elementData_915e3 M1 a0 a1) fun M3 r4 =>
  some (M3, r4)
abbrev P_Jxa1e45_init_da8c8 : MP := (RJxa1e45, cJxa1e45_init_da8c8, 1, none, 1, 20)
def F_Jxa1e45_init_da8c8 (M : Mem) (a0 : Nat) : Option (Mem × Unit) :=
  some (M, ())
abbrev P_Jxc12de_init_da8c8 : MP := (RJxc12de, cJxc12de_init_da8c8, 1, none, 2, 40)
def F_Jxc12de_init_da8c8 (M : Mem) (a0 : Nat) : Option (Mem × Unit) :=
  cl (F_Jxa1e45_init_da8c8 M a0) fun M1 _ =>
  bnd (sI M1 0 a0 (0 : Int32)) fun M3 =>
  some (M3, ())
abbrev P_Jx4a65c_init_da8c8 : MP := (RJx4a65c, cJx4a65c_init_da8c8, 1, none, 3, 60)
def F_Jx4a65c_init_da8c8 (M : Mem) (a0 : Nat) : Option (Mem × Unit) :=
  cl (F_Jxc12de_init_da8c8 M a0) fun M1 _ =>
  bnd (sR M1 1 a0 (some (gE M1))) fun M3 =>
  some (M3, ())
abbrev P_Jx4a65c_isEmpty_aae02 : MP := (RJx4a65c, cJx4a65c_isEmpty_aae02, 1, (some .boolean), 0, 0)
def F_Jx4a65c_isEmpty_aae02_p12 (M : Mem) (y0 : Int32) : Option (Mem × Int32) :=
  grd (y0 = 0 ∨ y0 = 1) <| some (M, y0)
def F_Jx4a65c_isEmpty_aae02 (M : Mem) (a0 : Nat) : Option (Mem × Int32) :=
  if (gI M 2 a0) = 0 then
  F_Jx4a65c_isEmpty_aae02_p12 M (1 : Int32)
  else
  F_Jx4a65c_isEmpty_aae02_p12 M (0 : Int32)
abbrev P_Jx4a65c_size_8abf5 : MP := (RJx4a65c, cJx4a65c_size_8abf5, 1, (some .int), 0, 0)
def F_Jx4a65c_size_8abf5 (M : Mem) (a0 : Nat) : Option (Mem × Int32) :=
  some (M, gI M 2 a0)
abbrev P_X4_follow : MP := (RX4, cX4_follow, 2, none, 0, 0)
def F_X4_follow (M : Mem) (a0 : Nat) (a1 : Nat) : Option (Mem × Unit) :=
  bnd (sJ M 502 a0 (gJ M 502 a1)) fun M1 =>
  bnd (sJ M1 503 a0 (gJ M1 503 a1)) fun M2 =>
  bnd (sJ M2 504 a0 (0 : Int64)) fun M3 =>
  some (M3, ())
abbrev P_X0_follow : MP := (RX0, cX0_follow, 3, none, 3, 64)
def F_X0_follow_p34 (k87 : Mem → Option (Mem × Unit)) : Nat → Mem → Nat → Nat → Int32 → Option (Mem × Unit)
  | 0, _, _, _, _ => none
  | n + 1, M, x0, x1, x2 =>
    lr (gR M 104 x0) (gK M) 1 fun b1 =>
    cl (F_Jx4a65c_size_8abf5 M b1) fun M2 r3 =>
    if r3 ≤ x2 then
    k87 M2
    else
    lr (gR M2 104 x1) (gK M2) 1 fun b4 =>
    cl (F_Jx4a65c_size_8abf5 M2 b4) fun M5 r6 =>
    if r6 ≤ x2 then
    k87 M5
    else
    lr (gR M5 104 x0) (gK M5) 1 fun b7 =>
    cl (F_Jx4a65c_get_915e3 M5 b7 x2) fun M8 r9 =>
    lr r9 (gK M8) 6 fun b10 =>
    lr (gR M8 104 x1) (gK M8) 1 fun b11 =>
    cl (F_Jx4a65c_get_915e3 M8 b11 x2) fun M12 r13 =>
    lr r13 (gK M12) 6 fun b14 =>
    cl (F_X4_follow M12 b10 b14) fun M15 _ =>
    bnd (x2 + 1) fun v17 =>
    (F_X0_follow_p34 k87 n) M15 x0 x1 v17
def F_X0_follow_p87 (M : Mem) : Option (Mem × Unit) :=
  some (M, ())
def F_X0_follow (M : Mem) (a0 : Nat) (a1 : Nat) : Option (Mem × Unit) :=
  bnd (sI M 107 a0 (gI M 107 a1)) fun M1 =>
  bnd (sI M1 108 a0 (gI M1 108 a1)) fun M2 =>
  grd ((gI M2 109 a1) = 0 ∨ (gI M2 109 a1) = 1) <| bnd (sI M2 109 a0 (gI M2 109 a1)) fun M3 =>
  bnd (sJ M3 110 a0 (gJ M3 110 a1)) fun M4 =>
  (F_X0_follow_p34 F_X0_follow_p87 FU) M4 a0 a1 (0 : Int32)
abbrev P_X11_cut : MP := (RX11, cX11_cut, 4, (some .long), 0, 0)
def F_X11_cut_p13 (M : Mem) (y0 : Int64) : Option (Mem × Int64) :=
  some (M, y0)
def F_X11_cut (M : Mem) (a0 : Int64) (a1 : Int64) : Option (Mem × Int64) :=
  if (lg_cmp a1 (0 : Int64)) = 0 then
  F_X11_cut_p13 M (0 : Int64)
  else
  grd (¬ a1 = 0) <|
  F_X11_cut_p13 M (a0 / a1)
abbrev P_X4_init : MP := (RX4, cX4_init, 5, none, 1, 23)
def F_X4_init (M : Mem) (a0 : Nat) (a1 : Int64) (a2 : Int64) : Option (Mem × Unit) :=
  bnd (sJ M 500 a0 a1) fun M1 =>
  bnd (sJ M1 501 a0 (((1000 : Int64) * a2) * a1)) fun M2 =>
  bnd (sJ M2 502 a0 (gJ M2 501 a0)) fun M3 =>
  cl (F_X11_cut M3 (gJ M3 501 a0) a1) fun M4 r5 =>
  bnd (sJ M4 503 a0 r5) fun M6 =>
  some (M6, ())
abbrev P_X0_init : MP := (RX0, cX0_init, 9, none, 7, 171)
def F_X0_init_p85 (k128 : Mem → Nat → Nat → Option (Mem × Unit)) : Nat → Mem → Nat → Int32 → Int32 → Int32 → Int32 → Nat → Int32 → Option (Mem × Unit)
  | 0, _, _, _, _, _, _, _, _ => none
  | n + 1, M, x0, x3, x4, x5, x6, x7, x8 =>
    if x3 ≤ x8 then
    k128 M x0 x7
    else
    bnd (gH M) fun b1 => bnd (nO M 6 5) fun M2 =>
    cl (F_X4_init M2 b1 ((x4 + (x8 * x5)).toInt64) (x6.toInt64)) fun M3 _ =>
    lr (gR M3 104 x0) (gK M3) 1 fun b5 =>
    cl (F_Jx4a65c_add_9ea2d M3 b5 b1) fun M6 r7 =>
    bnd (x8 + 1) fun v8 =>
    (F_X0_init_p85 k128 n) M6 x0 x3 x4 x5 x6 b1 v8
def F_X0_init_p128 (M : Mem) (x0 : Nat) (x7 : Nat) : Option (Mem × Unit) :=
  bnd (sR M 106 x0 (some x7)) fun M1 =>
  some (M1, ())
def F_X0_init (M : Mem) (a0 : Nat) (a1 : Int32) (a2 : Int32) (a3 : Int32) (a4 : Int32) (a5 : Int32) (a6 : Int32) : Option (Mem × Unit) :=
  bnd (gH M) fun b1 => bnd (nO M 1 3) fun M2 =>
  cl (F_Jx4a65c_init_da8c8 M2 b1) fun M3 _ =>
  bnd (sR M3 104 a0 (some b1)) fun M5 =>
  grd ((1 : Int32) = 0 ∨ (1 : Int32) = 1) <| bnd (sI M5 109 a0 (1 : Int32)) fun M6 =>
  bnd (sI M6 100 a0 a1) fun M7 =>
  bnd (sI M7 101 a0 (a2 / (100 : Int32))) fun M8 =>
  bnd (sI M8 102 a0 (a2 - a2 / (100 : Int32) * (100 : Int32))) fun M9 =>
  bnd (sI M9 103 a0 a6) fun M10 =>
  bnd (gH M10) fun b11 => bnd (nO M10 6 5) fun M12 =>
  cl (F_X4_init M12 b11 (a4.toInt64) (a6.toInt64)) fun M13 _ =>
  bnd (sR M13 105 a0 (some b11)) fun M15 =>
  lr (gR M15 104 a0) (gK M15) 1 fun b16 =>
  lr (gR M15 105 a0) (gK M15) 6 fun b17 =>
  cl (F_Jx4a65c_add_9ea2d M15 b16 b17) fun M18 r19 =>
  lr (gR M18 105 a0) (gK M18) 6 fun b20 =>
  (F_X0_init_p85 F_X0_init_p128 FU) M18 a0 a3 a4 a5 a6 b20 (1 : Int32)
abbrev P_X0_isFrozen : MP := (RX0, cX0_isFrozen, 1, (some .boolean), 0, 0)
def F_X0_isFrozen_p17 (M : Mem) (y0 : Int32) : Option (Mem × Int32) :=
  grd (y0 = 0 ∨ y0 = 1) <| some (M, y0)
def F_X0_isFrozen (M : Mem) (a0 : Nat) : Option (Mem × Int32) :=
  lr (gR M 105 a0) (gK M) 6 fun b1 =>
  if 0 < (lg_cmp (gJ M 503 b1) (0 : Int64)) then
  F_X0_isFrozen_p17 M (0 : Int32)
  else
  F_X0_isFrozen_p17 M (1 : Int32)
abbrev P_X0_leadOut : MP := (RX0, cX0_leadOut, 8, (some .long), 3, 64)
def F_X0_leadOut_p18 (k98 : Mem → Nat → Int64 → Nat → Option (Mem × Int64)) : Nat → Mem → Nat → Int64 → Nat → Int32 → Option (Mem × Int64)
  | 0, _, _, _, _, _ => none
  | n + 1, M, x0, x1, x3, x4 =>
    lr (gR M 104 x0) (gK M) 1 fun b1 =>
    cl (F_Jx4a65c_size_8abf5 M b1) fun M2 r3 =>
    if r3 ≤ x4 then
    k98 M2 x0 x1 x3
    else
    lr (gR M2 104 x0) (gK M2) 1 fun b4 =>
    cl (F_Jx4a65c_get_915e3 M2 b4 x4) fun M5 r6 =>
    lr r6 (gK M5) 6 fun b7 =>
    bnd ((((gI M5 107 x0).toInt64) * ((gJ M5 503 x3) - (gJ M5 503 b7))) / (100 : Int64)) fun v8 =>
    bnd (sJ M5 504 x3 ((gJ M5 504 x3) - v8)) fun M9 =>
    bnd (sJ M9 504 b7 ((gJ M9 504 b7) + v8)) fun M10 =>
    bnd (x4 + 1) fun v11 =>
    (F_X0_leadOut_p18 k98 n) M10 x0 x1 b7 v11
def F_X0_leadOut_p98 (M : Mem) (x0 : Nat) (x1 : Int64) (x3 : Nat) : Option (Mem × Int64) :=
  bnd ((((gI M 107 x0).toInt64) * ((gJ M 503 x3) - x1)) / (100 : Int64)) fun v1 =>
  bnd (sJ M 504 x3 ((gJ M 504 x3) - v1)) fun M2 =>
  some (M2, v1)
def F_X0_leadOut (M : Mem) (a0 : Nat) : Option (Mem × Int64) :=
  bnd ((1000 : Int64) * ((gI M 103 a0).toInt64)) fun v1 =>
  lr (gR M 105 a0) (gK M) 6 fun b2 =>
  (F_X0_leadOut_p18 F_X0_leadOut_p98 FU) M a0 v1 b2 (1 : Int32)
abbrev P_X4_settle : MP := (RX4, cX4_settle, 1, none, 1, 23)
def F_X4_settle (M : Mem) (a0 : Nat) : Option (Mem × Unit) :=
  bnd (sJ M 502 a0 ((gJ M 502 a0) + (gJ M 504 a0))) fun M1 =>
  bnd (sJ M1 504 a0 (0 : Int64)) fun M2 =>
  cl (F_X11_cut M2 (gJ M2 502 a0) (gJ M2 500 a0)) fun M3 r4 =>
  bnd (sJ M3 503 a0 r4) fun M5 =>
  some (M5, ())
abbrev P_X0_settle : MP := (RX0, cX0_settle, 2, none, 3, 64)
def F_X0_settle_p2 (k33 : Mem → Option (Mem × Unit)) : Nat → Mem → Nat → Int32 → Option (Mem × Unit)
  | 0, _, _, _ => none
  | n + 1, M, x0, x1 =>
    lr (gR M 104 x0) (gK M) 1 fun b1 =>
    cl (F_Jx4a65c_size_8abf5 M b1) fun M2 r3 =>
    if r3 ≤ x1 then
    k33 M2
    else
    lr (gR M2 104 x0) (gK M2) 1 fun b4 =>
    cl (F_Jx4a65c_get_915e3 M2 b4 x1) fun M5 r6 =>
    lr r6 (gK M5) 6 fun b7 =>
    cl (F_X4_settle M5 b7) fun M8 _ =>
    bnd (x1 + 1) fun v10 =>
    (F_X0_settle_p2 k33 n) M8 x0 v10
def F_X0_settle_p33 (M : Mem) : Option (Mem × Unit) :=
  some (M, ())
def F_X0_settle (M : Mem) (a0 : Nat) : Option (Mem × Unit) :=
  (F_X0_settle_p2 F_X0_settle_p33 FU) M a0 (0 : Int32)
abbrev P_X0_shareWith : MP := (RX0, cX0_shareWith, 6, none, 1, 30)
def F_X0_shareWith (M : Mem) (a0 : Nat) (a1 : Nat) (a2 : Int32) : Option (Mem × Unit) :=
  bnd (if (if 0 ≤ ((gI M 101 a0) - (gI M 101 a1)) then ((gI M 101 a0) - (gI M 101 a1)) else 0 - ((gI M 101 a0) - (gI M 101 a1))) < (if 0 ≤ ((gI M 102 a0) - (gI M 102 a1)) then ((gI M 102 a0) - (gI M 102 a1)) else 0 - ((gI M 102 a0) - (gI M 102 a1))) then (if 0 ≤ ((gI M 102 a0) - (gI M 102 a1)) then ((gI M 102 a0) - (gI M 102 a1)) else 0 - ((gI M 102 a0) - (gI M 102 a1))) else (if 0 ≤ ((gI M 101 a0) - (gI M 101 a1)) then ((gI M 101 a0) - (gI M 101 a1)) else 0 - ((gI M 101 a0) - (gI M 101 a1)))) fun v1 =>
  if v1 ≤ (9 : Int32) then
  lr (gR M 106 a0) (gK M) 6 fun b2 =>
  lr (gR M 106 a1) (gK M) 6 fun b3 =>
  cl (F_X11_cut M ((a2.toInt64) * ((gJ M 503 b2) - (gJ M 503 b3))) ((100 : Int64) * ((v1 + (1 : Int32)).toInt64))) fun M4 r5 =>
  lr (gR M4 106 a0) (gK M4) 6 fun b6 =>
  bnd (sJ M4 504 b6 ((gJ M4 504 b6) - r5)) fun M7 =>
  lr (gR M7 106 a1) (gK M7) 6 fun b8 =>
  bnd (sJ M7 504 b8 ((gJ M7 504 b8) + r5)) fun M9 =>
  some (M9, ())
  else
  some (M, ())
abbrev P_X0_wash : MP := (RX0, cX0_wash, 7, (some .long), 3, 64)
def F_X0_wash_p4 (k74 : Mem → Int64 → Option (Mem × Int64)) : Nat → Mem → Nat → Int64 → Int32 → Option (Mem × Int64)
  | 0, _, _, _, _ => none
  | n + 1, M, x0, x1, x3 =>
    lr (gR M 104 x0) (gK M) 1 fun b1 =>
    cl (F_Jx4a65c_size_8abf5 M b1) fun M2 r3 =>
    if r3 ≤ x3 then
    k74 M2 x1
    else
    lr (gR M2 104 x0) (gK M2) 1 fun b4 =>
    cl (F_Jx4a65c_get_915e3 M2 b4 x3) fun M5 r6 =>
    lr r6 (gK M5) 6 fun b7 =>
    bnd ((((gI M5 108 x0).toInt64) * ((gJ M5 502 b7) - (gJ M5 501 b7))) / (1000 : Int64)) fun v8 =>
    bnd (sJ M5 504 b7 ((gJ M5 504 b7) - v8)) fun M9 =>
    bnd (x1 + v8) fun v10 =>
    bnd (x3 + 1) fun v11 =>
    (F_X0_wash_p4 k74 n) M9 x0 v10 v11
def F_X0_wash_p74 (M : Mem) (x1 : Int64) : Option (Mem × Int64) :=
  some (M, x1)
def F_X0_wash (M : Mem) (a0 : Nat) : Option (Mem × Int64) :=
  (F_X0_wash_p4 F_X0_wash_p74 FU) M a0 (0 : Int64) (0 : Int32)
abbrev P_X10_init : MP := (RX10, cX10_init, 2, none, 4, 80)
def F_X10_init_p41 (k64 : Mem → Option (Mem × Unit)) : Nat → Mem → Nat → Int32 → Option (Mem × Unit)
  | 0, _, _, _ => none
  | n + 1, M, x0, x1 =>
    lr (gR M 1102 x0) (gK M) 20 fun b1 =>
    if (Int32.ofNat (gN M b1)) ≤ x1 then
    k64 M
    else
    lr (gR M 1102 x0) (gK M) 20 fun b2 =>
    grd (inb x1 (gN M b2)) <| bnd (sA M b2 (ixn x1) (10 : Int32)) fun M3 =>
    bnd (x1 + 1) fun v4 =>
    (F_X10_init_p41 k64 n) M3 x0 v4
def F_X10_init_p64 (M : Mem) : Option (Mem × Unit) :=
  some (M, ())
def F_X10_init (M : Mem) (a0 : Nat) : Option (Mem × Unit) :=
  bnd (gH M) fun b1 => bnd (nO M 1 3) fun M2 =>
  cl (F_Jx4a65c_init_da8c8 M2 b1) fun M3 _ =>
  bnd (sR M3 1100 a0 (some b1)) fun M5 =>
  grd (0 ≤ (12 : Int32).toInt ∧ (12 : Int32).toInt ≤ 10000) <| bnd (gH M5) fun b6 => bnd (nA M5 20 (ixn (12 : Int32))) fun M7 =>
  bnd (sR M7 1101 a0 (some b6)) fun M8 =>
  grd (0 ≤ (24 : Int32).toInt ∧ (24 : Int32).toInt ≤ 10000) <| bnd (gH M8) fun b9 => bnd (nA M8 20 (ixn (24 : Int32))) fun M10 =>
  bnd (sR M10 1102 a0 (some b9)) fun M11 =>
  grd (0 ≤ (24 : Int32).toInt ∧ (24 : Int32).toInt ≤ 10000) <| bnd (gH M11) fun b12 => bnd (nA M11 20 (ixn (24 : Int32))) fun M13 =>
  bnd (sR M13 1103 a0 (some b12)) fun M14 =>
  (F_X10_init_p41 F_X10_init_p64 FU) M14 a0 (0 : Int32)
abbrev P_X2_isJoinedOn : MP := (RX2, cX2_isJoinedOn, 2, (some .boolean), 0, 0)
def F_X2_isJoinedOn_p20 (M : Mem) (y0 : Int32) : Option (Mem × Int32) :=
  grd (y0 = 0 ∨ y0 = 1) <| some (M, y0)
def F_X2_isJoinedOn_p19 (M : Mem) : Option (Mem × Int32) :=
  F_X2_isJoinedOn_p20 M (0 : Int32)
def F_X2_isJoinedOn (M : Mem) (a0 : Nat) (a1 : Int32) : Option (Mem × Int32) :=
  if (gI M 303 a0) = 0 then
  F_X2_isJoinedOn_p19 M
  else
  if a1 < (gI M 304 a0) then
  F_X2_isJoinedOn_p19 M
  else
  F_X2_isJoinedOn_p20 M (1 : Int32)
abbrev P_X10_joinedOn : MP := (RX10, cX10_joinedOn, 4, (some .int), 3, 64)
def F_X10_joinedOn_p39 (k4 : Mem → Nat → Int32 → Int32 → Int32 → Option (Mem × Int32)) (M : Mem) (x0 : Nat) (x1 : Int32) (x3 : Int32) (y0 : Int32) (y1 : Int32) : Option (Mem × Int32) :=
  bnd (y0 + y1) fun v1 =>
  bnd (x3 + 1) fun v2 =>
  k4 M x0 x1 v1 v2
def F_X10_joinedOn_p4 (k47 : Mem → Int32 → Option (Mem × Int32)) : Nat → Mem → Nat → Int32 → Int32 → Int32 → Option (Mem × Int32)
  | 0, _, _, _, _, _ => none
  | n + 1, M, x0, x1, x2, x3 =>
    lr (gR M 1100 x0) (gK M) 1 fun b1 =>
    cl (F_Jx4a65c_size_8abf5 M b1) fun M2 r3 =>
    if r3 ≤ x3 then
    k47 M2 x2
    else
    lr (gR M2 1100 x0) (gK M2) 1 fun b4 =>
    cl (F_Jx4a65c_get_915e3 M2 b4 x3) fun M5 r6 =>
    lr r6 (gK M5) 4 fun b7 =>
    cl (F_X2_isJoinedOn M5 b7 x1) fun M8 r9 =>
    if r9 = 0 then
    (F_X10_joinedOn_p39 (F_X10_joinedOn_p4 k47 n)) M8 x0 x1 x3 x2 (0 : Int32)
    else
    (F_X10_joinedOn_p39 (F_X10_joinedOn_p4 k47 n)) M8 x0 x1 x3 x2 (1 : Int32)
def F_X10_joinedOn_p47 (M : Mem) (x2 : Int32) : Option (Mem × Int32) :=
  some (M, x2)
def F_X10_joinedOn (M : Mem) (a0 : Nat) (a1 : Int32) : Option (Mem × Int32) :=
  (F_X10_joinedOn_p4 F_X10_joinedOn_p47 FU) M a0 a1 (0 : Int32) (0 : Int32)
abbrev P_X11_inRound : MP := (RX11, cX11_inRound, 2, (some .int), 1, 30)
def F_X11_inRound_p17 (M : Mem) (y0 : Int32) : Option (Mem × Int32) :=
  some (M, y0)
def F_X11_inRound (M : Mem) (a0 : Nat) (a1 : Int32) : Option (Mem × Int32) :=
  if (Int32.ofNat (gN M a0)) = 0 then
  F_X11_inRound_p17 M (0 : Int32)
  else
  grd (¬ (Int32.ofNat (gN M a0)) = 0) <|
  grd (inb (fmI a1 (Int32.ofNat (gN M a0))) (gN M a0)) <|
  F_X11_inRound_p17 M (gA M a0 (ixn (fmI a1 (Int32.ofNat (gN M a0)))))
abbrev P_X10_needOf : MP := (RX10, cX10_needOf, 10, (some .long), 3, 64)
def F_X10_needOf_p121 (k27 : Mem → Nat → Int32 → Int32 → Int32 → Int64 → Int32 → Option (Mem × Int64)) (M : Mem) (x0 : Nat) (x1 : Int32) (x2 : Int32) (x3 : Int32) (x4 : Int64) (x6 : Int32) : Option (Mem × Int64) :=
  bnd (x6 + 1) fun v1 =>
  k27 M x0 x1 x2 x3 x4 v1
def F_X10_needOf_p118 (k27 : Mem → Nat → Int32 → Int32 → Int32 → Int64 → Int32 → Option (Mem × Int64)) (M : Mem) (x0 : Nat) (x1 : Int32) (x2 : Int32) (x3 : Int32) (x6 : Int32) (y0 : Int64) (y1 : Int64) : Option (Mem × Int64) :=
  bnd (y0 + y1) fun v1 =>
  (F_X10_needOf_p121 k27) M x0 x1 x2 x3 v1 x6
def F_X10_needOf_p98 (k27 : Mem → Nat → Int32 → Int32 → Int32 → Int64 → Int32 → Option (Mem × Int64)) (M : Mem) (x0 : Nat) (x1 : Int32) (x2 : Int32) (x3 : Int32) (x4 : Int64) (x6 : Int32) (x8 : Int32) (y0 : Int32) : Option (Mem × Int64) :=
  if y0 = 0 then
  (F_X10_needOf_p118 k27) M x0 x1 x2 x3 x6 x4 ((x8 / (2 : Int32)).toInt64)
  else
  (F_X10_needOf_p118 k27) M x0 x1 x2 x3 x6 x4 (x8.toInt64)
def F_X10_needOf_p27 (k127 : Mem → Int64 → Option (Mem × Int64)) : Nat → Mem → Nat → Int32 → Int32 → Int32 → Int64 → Int32 → Option (Mem × Int64)
  | 0, _, _, _, _, _, _, _ => none
  | n + 1, M, x0, x1, x2, x3, x4, x6 =>
    lr (gR M 1100 x0) (gK M) 1 fun b1 =>
    cl (F_Jx4a65c_size_8abf5 M b1) fun M2 r3 =>
    if r3 ≤ x6 then
    k127 M2 x4
    else
    lr (gR M2 1100 x0) (gK M2) 1 fun b4 =>
    cl (F_Jx4a65c_get_915e3 M2 b4 x6) fun M5 r6 =>
    lr r6 (gK M5) 4 fun b7 =>
    cl (F_X2_isJoinedOn M5 b7 x2) fun M8 r9 =>
    if r9 = 0 then
    (F_X10_needOf_p121 (F_X10_needOf_p27 k127 n)) M8 x0 x1 x2 x3 x4 x6
    else
    bnd ((gI M8 300 b7) + ((gI M8 301 b7) * x3)) fun v10 =>
    if (((gI M8 302 b7) >>> ((x1 - x1 / (24 : Int32) * (24 : Int32)) &&& 31)) &&& (1 : Int32)) = (1 : Int32) then
    (F_X10_needOf_p98 (F_X10_needOf_p27 k127 n)) M8 x0 x1 x2 x3 x4 x6 v10 (1 : Int32)
    else
    (F_X10_needOf_p98 (F_X10_needOf_p27 k127 n)) M8 x0 x1 x2 x3 x4 x6 v10 (0 : Int32)
def F_X10_needOf_p127 (M : Mem) (x4 : Int64) : Option (Mem × Int64) :=
  some (M, x4)
def F_X10_needOf (M : Mem) (a0 : Nat) (a1 : Int32) : Option (Mem × Int64) :=
  bnd (a1 / (24 : Int32)) fun v1 =>
  lr (gR M 1101 a0) (gK M) 20 fun b2 =>
  cl (F_X11_inRound M b2 v1) fun M3 r4 =>
  bnd (if (0 : Int32) < ((15 : Int32) - r4) then ((15 : Int32) - r4) else (0 : Int32)) fun v5 =>
  (F_X10_needOf_p27 F_X10_needOf_p127 FU) M3 a0 a1 v1 v5 (0 : Int64) (0 : Int32)
abbrev P_X11_beyond : MP := (RX11, cX11_beyond, 3, (some .int), 0, 0)
def F_X11_beyond_p19 (M : Mem) (y0 : Int32) : Option (Mem × Int32) :=
  some (M, y0)
def F_X11_beyond (M : Mem) (a0 : Int32) (a1 : Int32) (a2 : Int32) : Option (Mem × Int32) :=
  if a1 ≤ a0 then
  if a0 ≤ a2 then
  F_X11_beyond_p19 M (0 : Int32)
  else
  F_X11_beyond_p19 M (-6 : Int32)
  else
  some (M, (-4 : Int32))
abbrev P_X1_coldestNow : MP := (RX1, cX1_coldestNow, 4, (some .long), 3, 64)
def F_X1_coldestNow_p6 (k45 : Mem → Int64 → Option (Mem × Int64)) : Nat → Mem → Nat → Int64 → Int32 → Option (Mem × Int64)
  | 0, _, _, _, _ => none
  | n + 1, M, x0, x1, x3 =>
    lr (gR M 203 x0) (gK M) 1 fun b1 =>
    cl (F_Jx4a65c_size_8abf5 M b1) fun M2 r3 =>
    if r3 ≤ x3 then
    k45 M2 x1
    else
    lr (gR M2 203 x0) (gK M2) 1 fun b4 =>
    cl (F_Jx4a65c_get_915e3 M2 b4 x3) fun M5 r6 =>
    lr r6 (gK M5) 2 fun b7 =>
    lr (gR M5 105 b7) (gK M5) 6 fun b8 =>
    bnd (if (gJ M5 503 b8) < x1 then (gJ M5 503 b8) else x1) fun v9 =>
    bnd (x3 + 1) fun v10 =>
    (F_X1_coldestNow_p6 k45 n) M5 x0 v9 v10
def F_X1_coldestNow_p45 (M : Mem) (x1 : Int64) : Option (Mem × Int64) :=
  some (M, x1)
def F_X1_coldestNow (M : Mem) (a0 : Nat) : Option (Mem × Int64) :=
  (F_X1_coldestNow_p6 F_X1_coldestNow_p45 FU) M a0 (4000000000000000000 : Int64) (0 : Int32)
abbrev P_X1_layFlows : MP := (RX1, cX1_layFlows, 4, none, 4, 91)
def F_X1_layFlows_p57 (k93 : Mem → Nat → Int32 → Option (Mem × Unit)) : Nat → Mem → Nat → Int32 → Nat → Int32 → Option (Mem × Unit)
  | 0, _, _, _, _, _ => none
  | n + 1, M, x0, x1, x2, x3 =>
    lr (gR M 203 x0) (gK M) 1 fun b1 =>
    cl (F_Jx4a65c_size_8abf5 M b1) fun M2 r3 =>
    if r3 ≤ x3 then
    k93 M2 x0 x1
    else
    lr (gR M2 203 x0) (gK M2) 1 fun b4 =>
    cl (F_Jx4a65c_get_915e3 M2 b4 x3) fun M5 r6 =>
    lr r6 (gK M5) 2 fun b7 =>
    cl (F_X0_shareWith M5 x2 b7 (gI M5 205 x0)) fun M8 _ =>
    bnd (x3 + 1) fun v10 =>
    (F_X1_layFlows_p57 k93 n) M8 x0 x1 x2 v10
def F_X1_layFlows_p93 (k2 : Mem → Nat → Int32 → Option (Mem × Unit)) (M : Mem) (x0 : Nat) (x1 : Int32) : Option (Mem × Unit) :=
  bnd (x1 + 1) fun v1 =>
  k2 M x0 v1
def F_X1_layFlows_p2 (k99 : Mem → Option (Mem × Unit)) : Nat → Mem → Nat → Int32 → Option (Mem × Unit)
  | 0, _, _, _ => none
  | n + 1, M, x0, x1 =>
    lr (gR M 203 x0) (gK M) 1 fun b1 =>
    cl (F_Jx4a65c_size_8abf5 M b1) fun M2 r3 =>
    if r3 ≤ x1 then
    k99 M2
    else
    lr (gR M2 203 x0) (gK M2) 1 fun b4 =>
    cl (F_Jx4a65c_get_915e3 M2 b4 x1) fun M5 r6 =>
    lr r6 (gK M5) 2 fun b7 =>
    lr (gR M5 204 x0) (gK M5) 21 fun b8 =>
    grd (inb (7 : Int32) (gN M5 b8)) <|
    cl (F_X0_leadOut M5 b7) fun M9 r10 =>
    grd (inb (7 : Int32) (gN M9 b8)) <| bnd (sB M9 b8 (ixn (7 : Int32)) ((gB M5 b8 (ixn (7 : Int32))) + r10)) fun M11 =>
    lr (gR M11 204 x0) (gK M11) 21 fun b12 =>
    grd (inb (8 : Int32) (gN M11 b12)) <|
    cl (F_X0_wash M11 b7) fun M13 r14 =>
    grd (inb (8 : Int32) (gN M13 b12)) <| bnd (sB M13 b12 (ixn (8 : Int32)) ((gB M11 b12 (ixn (8 : Int32))) + r14)) fun M15 =>
    bnd (x1 + (1 : Int32)) fun v16 =>
    (F_X1_layFlows_p57 (F_X1_layFlows_p93 (F_X1_layFlows_p2 k99 n)) FU) M15 x0 x1 b7 v16
def F_X1_layFlows_p99 (M : Mem) : Option (Mem × Unit) :=
  some (M, ())
def F_X1_layFlows (M : Mem) (a0 : Nat) : Option (Mem × Unit) :=
  (F_X1_layFlows_p2 F_X1_layFlows_p99 FU) M a0 (0 : Int32)
abbrev P_X6_inForce : MP := (RX6, cX6_inForce, 6, (some (.object "RockHeat$Rule")), 3, 64)
def F_X6_inForce_p68 (k5 : Mem → Nat → Int32 → Int32 → Option Nat → Int32 → Option (Mem × Option Nat)) (M : Mem) (x0 : Nat) (x1 : Int32) (x2 : Int32) (x3 : Option Nat) (x4 : Int32) : Option (Mem × Option Nat) :=
  bnd (x4 + 1) fun v1 =>
  k5 M x0 x1 x2 x3 v1
def F_X6_inForce_p65 (k5 : Mem → Nat → Int32 → Int32 → Option Nat → Int32 → Option (Mem × Option Nat)) (M : Mem) (x0 : Nat) (x1 : Int32) (x2 : Int32) (x4 : Int32) (x5 : Nat) : Option (Mem × Option Nat) :=
  (F_X6_inForce_p68 k5) M x0 x1 x2 (some x5) x4
def F_X6_inForce_p5 (k74 : Mem → Option Nat → Option (Mem × Option Nat)) : Nat → Mem → Nat → Int32 → Int32 → Option Nat → Int32 → Option (Mem × Option Nat)
  | 0, _, _, _, _, _, _ => none
  | n + 1, M, x0, x1, x2, x3, x4 =>
    lr (gR M 700 x0) (gK M) 1 fun b1 =>
    cl (F_Jx4a65c_size_8abf5 M b1) fun M2 r3 =>
    if r3 ≤ x4 then
    k74 M2 x3
    else
    lr (gR M2 700 x0) (gK M2) 1 fun b4 =>
    cl (F_Jx4a65c_get_915e3 M2 b4 x4) fun M5 r6 =>
    lr r6 (gK M5) 7 fun b7 =>
    if (gI M5 600 b7) = x1 then
    if x2 < (gI M5 601 b7) then
    (F_X6_inForce_p68 (F_X6_inForce_p5 k74 n)) M5 x0 x1 x2 x3 x4
    else
    nul x3 (
    (F_X6_inForce_p65 (F_X6_inForce_p5 k74 n)) M5 x0 x1 x2 x4 b7) fun b8 =>
    grd (gK M5 b8 = 7) <|
    if (gI M5 601 b7) < (gI M5 601 b8) then
    (F_X6_inForce_p68 (F_X6_inForce_p5 k74 n)) M5 x0 x1 x2 (some b8) x4
    else
    (F_X6_inForce_p65 (F_X6_inForce_p5 k74 n)) M5 x0 x1 x2 x4 b7
    else
    (F_X6_inForce_p68 (F_X6_inForce_p5 k74 n)) M5 x0 x1 x2 x3 x4
def F_X6_inForce_p74 (M : Mem) (x3 : Option Nat) : Option (Mem × Option Nat) :=
  some (M, x3)
def F_X6_inForce (M : Mem) (a0 : Nat) (a1 : Int32) (a2 : Int32) : Option (Mem × Option Nat) :=
  (F_X6_inForce_p5 F_X6_inForce_p74 FU) M a0 a1 a2 none (0 : Int32)
abbrev P_X6_step : MP := (RX6, cX6_step, 7, (some .long), 0, 0)
def F_X6_step_p159 (M : Mem) (y0 : Int64) : Option (Mem × Int64) :=
  some (M, y0)
def F_X6_step_p127 (M : Mem) (x5 : Int64) : Option (Mem × Int64) :=
  if 0 ≤ (lg_cmp x5 (-1000000000 : Int64)) then
  if (lg_cmp x5 (1000000000 : Int64)) ≤ 0 then
  F_X6_step_p159 M x5
  else
  F_X6_step_p159 M (1000000000 : Int64)
  else
  F_X6_step_p159 M (-1000000000 : Int64)
def F_X6_step_p77 (M : Mem) (y0 : Int64) : Option (Mem × Int64) :=
  F_X6_step_p127 M y0
def F_X6_step_p93 (M : Mem) (y0 : Int64) : Option (Mem × Int64) :=
  F_X6_step_p127 M y0
def F_X6_step_p109 (M : Mem) (y0 : Int64) : Option (Mem × Int64) :=
  F_X6_step_p127 M y0
def F_X6_step_p125 (M : Mem) (y0 : Int64) : Option (Mem × Int64) :=
  F_X6_step_p127 M y0
def F_X6_step (M : Mem) (a0 : Int32) (a1 : Int64) (a2 : Int64) : Option (Mem × Int64) :=
  swi a0 0 [bnd (a1 + a2) fun v1 =>
  F_X6_step_p127 M v1,
  bnd (a1 - a2) fun v2 =>
  F_X6_step_p127 M v2,
  bnd (a1 * a2) fun v3 =>
  F_X6_step_p127 M v3,
  if (lg_cmp a2 (0 : Int64)) = 0 then
  F_X6_step_p77 M (0 : Int64)
  else
  grd (¬ a2 = 0) <|
  F_X6_step_p77 M (a1 / a2),
  if 0 ≤ (lg_cmp a1 a2) then
  F_X6_step_p93 M (0 : Int64)
  else
  F_X6_step_p93 M (1 : Int64),
  if (lg_cmp a1 a2) = 0 then
  F_X6_step_p109 M (1 : Int64)
  else
  F_X6_step_p109 M (0 : Int64)] (
  if (lg_cmp a1 a2) ≤ 0 then
  F_X6_step_p125 M (0 : Int64)
  else
  F_X6_step_p125 M (1 : Int64))
abbrev P_X6_valueOf : MP := (RX6, cX6_valueOf, 3, (some .long), 0, 0)
def F_X6_valueOf_p34 (M : Mem) (y0 : Int64) : Option (Mem × Int64) :=
  some (M, y0)
def F_X6_valueOf_p33 (M : Mem) : Option (Mem × Int64) :=
  F_X6_valueOf_p34 M (0 : Int64)
def F_X6_valueOf (M : Mem) (a0 : Nat) (a1 : Int32) : Option (Mem × Int64) :=
  if a1 < 0 then
  bnd ((-1 : Int32) - a1) fun v1 =>
  if v1 < 0 then
  F_X6_valueOf_p33 M
  else
  lr (gR M 701 a0) (gK M) 21 fun b2 =>
  if (Int32.ofNat (gN M b2)) ≤ v1 then
  F_X6_valueOf_p33 M
  else
  lr (gR M 701 a0) (gK M) 21 fun b3 =>
  grd (inb v1 (gN M b3)) <|
  F_X6_valueOf_p34 M (gB M b3 (ixn v1))
  else
  some (M, a1.toInt64)
abbrev P_X6_workOut : MP := (RX6, cX6_workOut, 6, (some .long), 1, 26)
def F_X6_workOut_p107 (k5 : Mem → Nat → Nat → Int32 → Int32 → Int32 → Option (Mem × Int64)) (M : Mem) (x0 : Nat) (x1 : Nat) (x2 : Int32) (x3 : Int32) (x4 : Int32) : Option (Mem × Int64) :=
  bnd (x4 + 1) fun v1 =>
  k5 M x0 x1 x2 x3 v1
def F_X6_workOut_p5 (k45 : Mem → Option (Mem × Int64)) (k113 : Mem → Nat → Int32 → Option (Mem × Int64)) : Nat → Mem → Nat → Nat → Int32 → Int32 → Int32 → Option (Mem × Int64)
  | 0, _, _, _, _, _, _ => none
  | n + 1, M, x0, x1, x2, x3, x4 =>
    if x2 ≤ x4 then
    k113 M x0 x3
    else
    if (Int32.ofNat (gN M x1)) ≤ x4 then
    k113 M x0 x3
    else
    grd (inb x4 (gN M x1)) <|
    bnd (gA M x1 (ixn x4)) fun v1 =>
    if (-10 : Int32) < v1 then
    lr (gR M 702 x0) (gK M) 21 fun b2 =>
    if (Int32.ofNat (gN M b2)) ≤ x3 then
    (F_X6_workOut_p107 (F_X6_workOut_p5 k45 k113 n)) M x0 x1 x2 x3 x4
    else
    lr (gR M 702 x0) (gK M) 21 fun b3 =>
    cl (F_X6_valueOf M x0 v1) fun M4 r5 =>
    grd (inb x3 (gN M4 b3)) <| bnd (sB M4 b3 (ixn x3) r5) fun M6 =>
    bnd (x3 + 1) fun v7 =>
    (F_X6_workOut_p107 (F_X6_workOut_p5 k45 k113 n)) M6 x0 x1 x2 v7 x4
    else
    if x3 < (2 : Int32) then
    k45 M
    else
    lr (gR M 702 x0) (gK M) 21 fun b8 =>
    if x3 ≤ (Int32.ofNat (gN M b8)) then
    bnd (x3 + (-1)) fun v9 =>
    lr (gR M 702 x0) (gK M) 21 fun b10 =>
    lr (gR M 702 x0) (gK M) 21 fun b11 =>
    grd (inb (v9 - (1 : Int32)) (gN M b11)) <|
    lr (gR M 702 x0) (gK M) 21 fun b12 =>
    grd (inb v9 (gN M b12)) <|
    cl (F_X6_step M ((-10 : Int32) - v1) (gB M b11 (ixn (v9 - (1 : Int32)))) (gB M b12 (ixn v9))) fun M13 r14 =>
    grd (inb (v9 - (1 : Int32)) (gN M13 b10)) <| bnd (sB M13 b10 (ixn (v9 - (1 : Int32))) r14) fun M15 =>
    (F_X6_workOut_p107 (F_X6_workOut_p5 k45 k113 n)) M15 x0 x1 x2 v9 x4
    else
    k45 M
def F_X6_workOut_p45 (M : Mem) : Option (Mem × Int64) :=
  some (M, (0 : Int64))
def F_X6_workOut_p138 (M : Mem) (y0 : Int64) : Option (Mem × Int64) :=
  some (M, y0)
def F_X6_workOut_p137 (M : Mem) : Option (Mem × Int64) :=
  F_X6_workOut_p138 M (0 : Int64)
def F_X6_workOut_p113 (M : Mem) (x0 : Nat) (x3 : Int32) : Option (Mem × Int64) :=
  if x3 ≤ 0 then
  F_X6_workOut_p137 M
  else
  lr (gR M 702 x0) (gK M) 21 fun b1 =>
  if (Int32.ofNat (gN M b1)) < x3 then
  F_X6_workOut_p137 M
  else
  lr (gR M 702 x0) (gK M) 21 fun b2 =>
  grd (inb (x3 - (1 : Int32)) (gN M b2)) <|
  F_X6_workOut_p138 M (gB M b2 (ixn (x3 - (1 : Int32))))
def F_X6_workOut (M : Mem) (a0 : Nat) (a1 : Nat) (a2 : Int32) : Option (Mem × Int64) :=
  (F_X6_workOut_p5 F_X6_workOut_p45 F_X6_workOut_p113 FU) M a0 a1 a2 (0 : Int32) (0 : Int32)
abbrev P_X6_worth : MP := (RX6, cX6_worth, 5, (some .long), 2, 51)
def F_X6_worth_p103 (M : Mem) (y0 : Int64) : Option (Mem × Int64) :=
  some (M, y0)
def F_X6_worth (M : Mem) (a0 : Nat) (a1 : Option Nat) (a2 : Nat) : Option (Mem × Int64) :=
  nul a1 (
  some (M, (0 : Int64))) fun b1 =>
  lr (gR M 701 a0) (gK M) 21 fun b2 =>
  lr (gR M 105 a2) (gK M) 6 fun b3 =>
  grd (inb (5 : Int32) (gN M b2)) <| bnd (sB M b2 (ixn (5 : Int32)) ((gJ M 503 b3) / (1000 : Int64))) fun M4 =>
  lr (gR M4 701 a0) (gK M4) 21 fun b5 =>
  lr (gR M4 106 a2) (gK M4) 6 fun b6 =>
  grd (inb (6 : Int32) (gN M4 b5)) <| bnd (sB M4 b5 (ixn (6 : Int32)) ((gJ M4 503 b6) / (1000 : Int64))) fun M7 =>
  lr (gR M7 701 a0) (gK M7) 21 fun b8 =>
  grd (inb (7 : Int32) (gN M7 b8)) <| bnd (sB M7 b8 (ixn (7 : Int32)) ((gI M7 100 a2).toInt64)) fun M9 =>
  lr (gR M9 701 a0) (gK M9) 21 fun b10 =>
  grd (inb (8 : Int32) (gN M9 b10)) <| bnd (sB M9 b10 (ixn (8 : Int32)) ((gI M9 103 a2).toInt64)) fun M11 =>
  grd (gK M11 b1 = 7) <|
  lr (gR M11 602 b1) (gK M11) 20 fun b12 =>
  cl (F_X6_workOut M11 a0 b12 (gI M11 603 b1)) fun M13 r14 =>
  if 0 ≤ (lg_cmp r14 (0 : Int64)) then
  if (lg_cmp r14 (99999 : Int64)) ≤ 0 then
  F_X6_worth_p103 M13 r14
  else
  F_X6_worth_p103 M13 (99999 : Int64)
  else
  F_X6_worth_p103 M13 (0 : Int64)
abbrev P_X7_liftAt : MP := (RX7, cX7_liftAt, 10, (some .long), 1, 23)
def F_X7_liftAt_p10 (k60 : Mem → Nat → Int64 → Int64 → Int64 → Int32 → Int64 → Option (Mem × Int64)) (k121 : Mem → Int64 → Option (Mem × Int64)) : Nat → Mem → Nat → Int64 → Int64 → Int64 → Int32 → Option (Mem × Int64)
  | 0, _, _, _, _, _, _ => none
  | n + 1, M, x0, x1, x3, x5, x7 =>
    if (gI M 802 x0) ≤ x7 then
    k121 M x3
    else
    lr (gR M 800 x0) (gK M) 20 fun b1 =>
    if (Int32.ofNat (gN M b1)) ≤ x7 then
    k121 M x3
    else
    lr (gR M 801 x0) (gK M) 20 fun b2 =>
    if (Int32.ofNat (gN M b2)) ≤ x7 then
    k121 M x3
    else
    lr (gR M 800 x0) (gK M) 20 fun b3 =>
    grd (inb x7 (gN M b3)) <|
    bnd ((1000 : Int64) * ((gA M b3 (ixn x7)).toInt64)) fun v4 =>
    if 0 ≤ (lg_cmp x1 v4) then
    lr (gR M 801 x0) (gK M) 20 fun b5 =>
    grd (inb x7 (gN M b5)) <|
    bnd ((gA M b5 (ixn x7)).toInt64) fun v6 =>
    bnd (x7 + 1) fun v7 =>
    (F_X7_liftAt_p10 k60 k121 n) M x0 x1 v6 v4 v7
    else
    k60 M x0 x1 x3 x5 x7 v4
def F_X7_liftAt_p101 (M : Mem) (y0 : Int64) : Option (Mem × Int64) :=
  some (M, y0)
def F_X7_liftAt_p60 (M : Mem) (x0 : Nat) (x1 : Int64) (x3 : Int64) (x5 : Int64) (x7 : Int32) (x8 : Int64) : Option (Mem × Int64) :=
  if x7 = 0 then
  lr (gR M 801 x0) (gK M) 20 fun b4 =>
  grd (inb x7 (gN M b4)) <|
  F_X7_liftAt_p101 M ((gA M b4 (ixn x7)).toInt64)
  else
  lr (gR M 801 x0) (gK M) 20 fun b1 =>
  grd (inb x7 (gN M b1)) <|
  cl (F_X11_cut M ((((gA M b1 (ixn x7)).toInt64) - x3) * (x1 - x5)) (x8 - x5)) fun M2 r3 =>
  F_X7_liftAt_p101 M2 (x3 + r3)
def F_X7_liftAt_p121 (M : Mem) (x3 : Int64) : Option (Mem × Int64) :=
  some (M, x3)
def F_X7_liftAt (M : Mem) (a0 : Nat) (a1 : Int64) : Option (Mem × Int64) :=
  (F_X7_liftAt_p10 F_X7_liftAt_p60 F_X7_liftAt_p121 FU) M a0 a1 (100 : Int64) (0 : Int64) (0 : Int32)
abbrev P_X1_meet : MP := (RX1, cX1_meet, 20, none, 4, 89)
def F_X1_meet_p221 (k25 : Mem → Nat → Option Nat → Int64 → Int64 → Int32 → Option (Mem × Unit)) (M : Mem) (x0 : Nat) (x3 : Option Nat) (x4 : Int64) (x6 : Int64) (x8 : Int32) : Option (Mem × Unit) :=
  bnd (x8 + 1) fun v1 =>
  k25 M x0 x3 x4 x6 v1
def F_X1_meet_p25 (k227 : Mem → Nat → Int64 → Int64 → Option (Mem × Unit)) : Nat → Mem → Nat → Option Nat → Int64 → Int64 → Int32 → Option (Mem × Unit)
  | 0, _, _, _, _, _, _ => none
  | n + 1, M, x0, x3, x4, x6, x8 =>
    lr (gR M 203 x0) (gK M) 1 fun b1 =>
    cl (F_Jx4a65c_size_8abf5 M b1) fun M2 r3 =>
    if r3 ≤ x8 then
    k227 M2 x0 x4 x6
    else
    if (lg_cmp x4 (0 : Int64)) ≤ 0 then
    k227 M2 x0 x4 x6
    else
    lr (gR M2 203 x0) (gK M2) 1 fun b4 =>
    cl (F_Jx4a65c_get_915e3 M2 b4 x8) fun M5 r6 =>
    lr r6 (gK M5) 2 fun b7 =>
    if (gI M5 109 b7) = 0 then
    (F_X1_meet_p221 (F_X1_meet_p25 k227 n)) M5 x0 x3 x4 x6 x8
    else
    cl (F_X0_isFrozen M5 b7) fun M8 r9 =>
    if r9 = 0 then
    lr (gR M8 201 x0) (gK M8) 9 fun b10 =>
    lr (gR M8 105 b7) (gK M8) 6 fun b11 =>
    cl (F_X7_liftAt M8 b10 (gJ M8 503 b11)) fun M12 r13 =>
    cl (F_X11_cut M12 (((100 : Int64) * x4) + (99 : Int64)) r13) fun M14 r15 =>
    lr (gR M14 105 b7) (gK M14) 6 fun b16 =>
    bnd (if (gJ M14 502 b16) < (0 : Int64) then (0 : Int64) else (gJ M14 502 b16)) fun v17 =>
    lr (gR M14 202 x0) (gK M14) 8 fun b18 =>
    cl (F_X6_worth M14 b18 x3 b7) fun M19 r20 =>
    bnd (if (if r15 < v17 then r15 else v17) < r20 then (if r15 < v17 then r15 else v17) else r20) fun v21 =>
    bnd ((v21 * r13) / (100 : Int64)) fun v22 =>
    lr (gR M19 105 b7) (gK M19) 6 fun b23 =>
    bnd (sJ M19 502 b23 ((gJ M19 502 b23) - v21)) fun M24 =>
    bnd (sJ M24 110 b7 ((gJ M24 110 b7) + v21)) fun M25 =>
    bnd (x4 - v22) fun v26 =>
    bnd (x6 + (v22 - v21)) fun v27 =>
    lr (gR M25 204 x0) (gK M25) 21 fun b28 =>
    grd (inb (2 : Int32) (gN M25 b28)) <|
    grd (inb (2 : Int32) (gN M25 b28)) <| bnd (sB M25 b28 (ixn (2 : Int32)) ((gB M25 b28 (ixn (2 : Int32))) + v21)) fun M29 =>
    lr (gR M29 204 x0) (gK M29) 21 fun b30 =>
    grd (inb (3 : Int32) (gN M29 b30)) <|
    grd (inb (3 : Int32) (gN M29 b30)) <| bnd (sB M29 b30 (ixn (3 : Int32)) ((gB M29 b30 (ixn (3 : Int32))) + v22)) fun M31 =>
    (F_X1_meet_p221 (F_X1_meet_p25 k227 n)) M31 x0 x3 v26 v27 x8
    else
    (F_X1_meet_p221 (F_X1_meet_p25 k227 n)) M8 x0 x3 x4 x6 x8
def F_X1_meet_p227 (M : Mem) (x0 : Nat) (x4 : Int64) (x6 : Int64) : Option (Mem × Unit) :=
  lr (gR M 204 x0) (gK M) 21 fun b1 =>
  grd (inb (4 : Int32) (gN M b1)) <|
  grd (inb (4 : Int32) (gN M b1)) <| bnd (sB M b1 (ixn (4 : Int32)) ((gB M b1 (ixn (4 : Int32))) + x6)) fun M2 =>
  lr (gR M2 204 x0) (gK M2) 21 fun b3 =>
  grd (inb (5 : Int32) (gN M2 b3)) <|
  grd (inb (5 : Int32) (gN M2 b3)) <| bnd (sB M2 b3 (ixn (5 : Int32)) ((gB M2 b3 (ixn (5 : Int32))) + x4)) fun M4 =>
  lr (gR M4 204 x0) (gK M4) 21 fun b5 =>
  grd (inb (6 : Int32) (gN M4 b5)) <|
  lr (gR M4 200 x0) (gK M4) 12 fun b6 =>
  lr (gR M4 1102 b6) (gK M4) 20 fun b7 =>
  cl (F_X11_inRound M4 b7 (gI M4 206 x0)) fun M8 r9 =>
  grd (inb (6 : Int32) (gN M8 b5)) <| bnd (sB M8 b5 (ixn (6 : Int32)) ((gB M4 b5 (ixn (6 : Int32))) + (((x6 + x4) * (r9.toInt64)) / (100 : Int64)))) fun M10 =>
  some (M10, ())
def F_X1_meet (M : Mem) (a0 : Nat) (a1 : Int64) : Option (Mem × Unit) :=
  lr (gR M 202 a0) (gK M) 8 fun b1 =>
  cl (F_X6_inForce M b1 (0 : Int32) ((gI M 206 a0) / (24 : Int32))) fun M2 r3 =>
  (F_X1_meet_p25 F_X1_meet_p227 FU) M2 a0 r3 a1 (0 : Int64) (0 : Int32)
abbrev P_X1_takeSun : MP := (RX1, cX1_takeSun, 8, none, 4, 89)
def F_X1_takeSun_p122 (k35 : Mem → Nat → Option Nat → Int64 → Int32 → Option (Mem × Unit)) (M : Mem) (x0 : Nat) (x1 : Option Nat) (x2 : Int64) (x4 : Int32) : Option (Mem × Unit) :=
  bnd (x4 + 1) fun v1 =>
  k35 M x0 x1 x2 v1
def F_X1_takeSun_p35 (k128 : Mem → Nat → Int64 → Option (Mem × Unit)) : Nat → Mem → Nat → Option Nat → Int64 → Int32 → Option (Mem × Unit)
  | 0, _, _, _, _, _ => none
  | n + 1, M, x0, x1, x2, x4 =>
    lr (gR M 203 x0) (gK M) 1 fun b1 =>
    cl (F_Jx4a65c_size_8abf5 M b1) fun M2 r3 =>
    if r3 ≤ x4 then
    k128 M2 x0 x2
    else
    if (lg_cmp x2 (0 : Int64)) ≤ 0 then
    k128 M2 x0 x2
    else
    lr (gR M2 203 x0) (gK M2) 1 fun b4 =>
    cl (F_Jx4a65c_get_915e3 M2 b4 x4) fun M5 r6 =>
    lr r6 (gK M5) 2 fun b7 =>
    if (gI M5 109 b7) = 0 then
    (F_X1_takeSun_p122 (F_X1_takeSun_p35 k128 n)) M5 x0 x1 x2 x4
    else
    lr (gR M5 202 x0) (gK M5) 8 fun b8 =>
    cl (F_X6_worth M5 b8 x1 b7) fun M9 r10 =>
    bnd (if r10 < x2 then r10 else x2) fun v11 =>
    lr (gR M9 105 b7) (gK M9) 6 fun b12 =>
    bnd (sJ M9 502 b12 ((gJ M9 502 b12) + v11)) fun M13 =>
    bnd (x2 - v11) fun v14 =>
    lr (gR M13 204 x0) (gK M13) 21 fun b15 =>
    grd (inb (0 : Int32) (gN M13 b15)) <|
    grd (inb (0 : Int32) (gN M13 b15)) <| bnd (sB M13 b15 (ixn (0 : Int32)) ((gB M13 b15 (ixn (0 : Int32))) + v11)) fun M16 =>
    (F_X1_takeSun_p122 (F_X1_takeSun_p35 k128 n)) M16 x0 x1 v14 x4
def F_X1_takeSun_p128 (M : Mem) (x0 : Nat) (x2 : Int64) : Option (Mem × Unit) :=
  lr (gR M 204 x0) (gK M) 21 fun b1 =>
  grd (inb (1 : Int32) (gN M b1)) <|
  grd (inb (1 : Int32) (gN M b1)) <| bnd (sB M b1 (ixn (1 : Int32)) ((gB M b1 (ixn (1 : Int32))) + x2)) fun M2 =>
  some (M2, ())
def F_X1_takeSun (M : Mem) (a0 : Nat) : Option (Mem × Unit) :=
  lr (gR M 202 a0) (gK M) 8 fun b1 =>
  cl (F_X6_inForce M b1 (1 : Int32) ((gI M 206 a0) / (24 : Int32))) fun M2 r3 =>
  lr (gR M2 200 a0) (gK M2) 12 fun b4 =>
  lr (gR M2 1103 b4) (gK M2) 20 fun b5 =>
  cl (F_X11_inRound M2 b5 (gI M2 206 a0)) fun M6 r7 =>
  bnd (r7.toInt64) fun v8 =>
  (F_X1_takeSun_p35 F_X1_takeSun_p128 FU) M6 a0 r3 v8 (0 : Int32)
abbrev P_X6_tellHour : MP := (RX6, cX6_tellHour, 5, none, 2, 51)
def F_X6_tellHour (M : Mem) (a0 : Nat) (a1 : Nat) (a2 : Int32) (a3 : Int64) : Option (Mem × Unit) :=
  lr (gR M 701 a0) (gK M) 21 fun b1 =>
  grd (inb (0 : Int32) (gN M b1)) <| bnd (sB M b1 (ixn (0 : Int32)) ((a2 - a2 / (24 : Int32) * (24 : Int32)).toInt64)) fun M2 =>
  lr (gR M2 701 a0) (gK M2) 21 fun b3 =>
  grd (inb (1 : Int32) (gN M2 b3)) <| bnd (sB M2 b3 (ixn (1 : Int32)) ((a2 / (24 : Int32)).toInt64)) fun M4 =>
  lr (gR M4 701 a0) (gK M4) 21 fun b5 =>
  lr (gR M4 1102 a1) (gK M4) 20 fun b6 =>
  cl (F_X11_inRound M4 b6 a2) fun M7 r8 =>
  grd (inb (2 : Int32) (gN M7 b5)) <| bnd (sB M7 b5 (ixn (2 : Int32)) (r8.toInt64)) fun M9 =>
  lr (gR M9 701 a0) (gK M9) 21 fun b10 =>
  lr (gR M9 1101 a1) (gK M9) 20 fun b11 =>
  cl (F_X11_inRound M9 b11 (a2 / (24 : Int32))) fun M12 r13 =>
  grd (inb (3 : Int32) (gN M12 b10)) <| bnd (sB M12 b10 (ixn (3 : Int32)) (r13.toInt64)) fun M14 =>
  lr (gR M14 701 a0) (gK M14) 21 fun b15 =>
  grd (inb (4 : Int32) (gN M14 b15)) <| bnd (sB M14 b15 (ixn (4 : Int32)) a3) fun M16 =>
  some (M16, ())
abbrev P_X1_pass : MP := (RX1, cX1_pass, 4, none, 5, 128)
def F_X1_pass_p43 (k74 : Mem → Nat → Option (Mem × Unit)) : Nat → Mem → Nat → Int32 → Option (Mem × Unit)
  | 0, _, _, _ => none
  | n + 1, M, x0, x3 =>
    lr (gR M 203 x0) (gK M) 1 fun b1 =>
    cl (F_Jx4a65c_size_8abf5 M b1) fun M2 r3 =>
    if r3 ≤ x3 then
    k74 M2 x0
    else
    lr (gR M2 203 x0) (gK M2) 1 fun b4 =>
    cl (F_Jx4a65c_get_915e3 M2 b4 x3) fun M5 r6 =>
    lr r6 (gK M5) 2 fun b7 =>
    cl (F_X0_settle M5 b7) fun M8 _ =>
    bnd (x3 + 1) fun v10 =>
    (F_X1_pass_p43 k74 n) M8 x0 v10
def F_X1_pass_p74 (M : Mem) (x0 : Nat) : Option (Mem × Unit) :=
  bnd (sI M 206 x0 ((gI M 206 x0) + (1 : Int32))) fun M1 =>
  some (M1, ())
def F_X1_pass (M : Mem) (a0 : Nat) : Option (Mem × Unit) :=
  lr (gR M 200 a0) (gK M) 12 fun b1 =>
  cl (F_X10_needOf M b1 (gI M 206 a0)) fun M2 r3 =>
  lr (gR M2 202 a0) (gK M2) 8 fun b4 =>
  lr (gR M2 200 a0) (gK M2) 12 fun b5 =>
  cl (F_X6_tellHour M2 b4 b5 (gI M2 206 a0) r3) fun M6 _ =>
  cl (F_X1_layFlows M6 a0) fun M8 _ =>
  cl (F_X1_takeSun M8 a0) fun M10 _ =>
  cl (F_X1_meet M10 a0 r3) fun M12 _ =>
  (F_X1_pass_p43 F_X1_pass_p74 FU) M12 a0 (0 : Int32)
abbrev P_X11_passColdest : MP := (RX11, cX11_passColdest, 6, none, 6, 151)
def F_X11_passColdest_p70 (k20 : Mem → Nat → Int32 → Int32 → Option (Mem × Unit)) (M : Mem) (x0 : Nat) (x1 : Int32) (x2 : Int32) : Option (Mem × Unit) :=
  bnd (x2 + 1) fun v1 =>
  k20 M x0 x1 v1
def F_X11_passColdest_p20 (k76 : Mem → Option (Mem × Unit)) : Nat → Mem → Nat → Int32 → Int32 → Option (Mem × Unit)
  | 0, _, _, _, _ => none
  | n + 1, M, x0, x1, x2 =>
    if x1 ≤ x2 then
    k76 M
    else
    lr (gR M 1206 x0) (gK M) 3 fun b1 =>
    bnd (gI M 206 b1) fun v2 =>
    lr (gR M 1206 x0) (gK M) 3 fun b3 =>
    cl (F_X1_pass M b3) fun M4 _ =>
    lr (gR M4 1206 x0) (gK M4) 3 fun b6 =>
    cl (F_X1_coldestNow M4 b6) fun M7 r8 =>
    if 0 ≤ (lg_cmp r8 (gJ M7 1209 x0)) then
    (F_X11_passColdest_p70 (F_X11_passColdest_p20 k76 n)) M7 x0 x1 x2
    else
    bnd (sJ M7 1209 x0 r8) fun M9 =>
    bnd (sI M9 1210 x0 v2) fun M10 =>
    (F_X11_passColdest_p70 (F_X11_passColdest_p20 k76 n)) M10 x0 x1 x2
def F_X11_passColdest_p76 (M : Mem) : Option (Mem × Unit) :=
  some (M, ())
def F_X11_passColdest (M : Mem) (a0 : Nat) (a1 : Int32) : Option (Mem × Unit) :=
  bnd (sJ M 1209 a0 (4000000000000000000 : Int64)) fun M1 =>
  lr (gR M1 1206 a0) (gK M1) 3 fun b2 =>
  bnd (sI M1 1210 a0 (gI M1 206 b2)) fun M3 =>
  (F_X11_passColdest_p20 F_X11_passColdest_p76 FU) M3 a0 a1 (0 : Int32)
abbrev P_X11_refuse : MP := (RX11, cX11_refuse, 2, (some .int), 0, 0)
def F_X11_refuse_p25 (M : Mem) (x1 : Int32) : Option (Mem × Int32) :=
  some (M, x1)
def F_X11_refuse (M : Mem) (a0 : Nat) (a1 : Int32) : Option (Mem × Int32) :=
  if 0 ≤ a1 then
  F_X11_refuse_p25 M a1
  else
  lr (gR M 1208 a0) (gK M) 20 fun b1 =>
  if a1 ≤ (-(Int32.ofNat (gN M b1))) then
  F_X11_refuse_p25 M a1
  else
  lr (gR M 1208 a0) (gK M) 20 fun b2 =>
  grd (inb (-a1) (gN M b2)) <|
  grd (inb (-a1) (gN M b2)) <| bnd (sA M b2 (ixn (-a1)) ((gA M b2 (ixn (-a1))) + (1 : Int32))) fun M3 =>
  F_X11_refuse_p25 M3 a1
abbrev P_X11_refuseLong : MP := (RX11, cX11_refuseLong, 2, (some .long), 1, 21)
def F_X11_refuseLong (M : Mem) (a0 : Nat) (a1 : Int32) : Option (Mem × Int64) :=
  cl (F_X11_refuse M a0 a1) fun M1 r2 =>
  some (M1, (4000000000000000000 : Int64) - (r2.toInt64))
abbrev P_X1_follow : MP := (RX1, cX1_follow, 3, none, 4, 86)
def F_X1_follow_p18 (k54 : Mem → Nat → Nat → Option (Mem × Unit)) : Nat → Mem → Nat → Nat → Int32 → Option (Mem × Unit)
  | 0, _, _, _, _ => none
  | n + 1, M, x0, x1, x2 =>
    lr (gR M 204 x0) (gK M) 21 fun b1 =>
    if (Int32.ofNat (gN M b1)) ≤ x2 then
    k54 M x0 x1
    else
    lr (gR M 204 x1) (gK M) 21 fun b2 =>
    if (Int32.ofNat (gN M b2)) ≤ x2 then
    k54 M x0 x1
    else
    lr (gR M 204 x0) (gK M) 21 fun b3 =>
    lr (gR M 204 x1) (gK M) 21 fun b4 =>
    grd (inb x2 (gN M b4)) <|
    grd (inb x2 (gN M b3)) <| bnd (sB M b3 (ixn x2) (gB M b4 (ixn x2))) fun M5 =>
    bnd (x2 + 1) fun v6 =>
    (F_X1_follow_p18 k54 n) M5 x0 x1 v6
def F_X1_follow_p56 (k109 : Mem → Option (Mem × Unit)) : Nat → Mem → Nat → Nat → Int32 → Option (Mem × Unit)
  | 0, _, _, _, _ => none
  | n + 1, M, x0, x1, x2 =>
    lr (gR M 203 x0) (gK M) 1 fun b1 =>
    cl (F_Jx4a65c_size_8abf5 M b1) fun M2 r3 =>
    if r3 ≤ x2 then
    k109 M2
    else
    lr (gR M2 203 x1) (gK M2) 1 fun b4 =>
    cl (F_Jx4a65c_size_8abf5 M2 b4) fun M5 r6 =>
    if r6 ≤ x2 then
    k109 M5
    else
    lr (gR M5 203 x0) (gK M5) 1 fun b7 =>
    cl (F_Jx4a65c_get_915e3 M5 b7 x2) fun M8 r9 =>
    lr r9 (gK M8) 2 fun b10 =>
    lr (gR M8 203 x1) (gK M8) 1 fun b11 =>
    cl (F_Jx4a65c_get_915e3 M8 b11 x2) fun M12 r13 =>
    lr r13 (gK M12) 2 fun b14 =>
    cl (F_X0_follow M12 b10 b14) fun M15 _ =>
    bnd (x2 + 1) fun v17 =>
    (F_X1_follow_p56 k109 n) M15 x0 x1 v17
def F_X1_follow_p109 (M : Mem) : Option (Mem × Unit) :=
  some (M, ())
def F_X1_follow_p54 (M : Mem) (x0 : Nat) (x1 : Nat) : Option (Mem × Unit) :=
  (F_X1_follow_p56 F_X1_follow_p109 FU) M x0 x1 (0 : Int32)
def F_X1_follow (M : Mem) (a0 : Nat) (a1 : Nat) : Option (Mem × Unit) :=
  bnd (sI M 205 a0 (gI M 205 a1)) fun M1 =>
  bnd (sI M1 206 a0 (gI M1 206 a1)) fun M2 =>
  (F_X1_follow_p18 F_X1_follow_p54 FU) M2 a0 a1 (0 : Int32)
abbrev P_X1_shut : MP := (RX1, cX1_shut, 3, none, 3, 64)
def F_X1_shut_p37 (k2 : Mem → Nat → Int32 → Int32 → Option (Mem × Unit)) (M : Mem) (x0 : Nat) (x1 : Int32) (x2 : Int32) : Option (Mem × Unit) :=
  bnd (x2 + 1) fun v1 =>
  k2 M x0 x1 v1
def F_X1_shut_p2 (k43 : Mem → Option (Mem × Unit)) : Nat → Mem → Nat → Int32 → Int32 → Option (Mem × Unit)
  | 0, _, _, _, _ => none
  | n + 1, M, x0, x1, x2 =>
    lr (gR M 203 x0) (gK M) 1 fun b1 =>
    cl (F_Jx4a65c_size_8abf5 M b1) fun M2 r3 =>
    if r3 ≤ x2 then
    k43 M2
    else
    if ((x1 >>> (x2 &&& 31)) &&& (1 : Int32)) = (1 : Int32) then
    lr (gR M2 203 x0) (gK M2) 1 fun b4 =>
    cl (F_Jx4a65c_get_915e3 M2 b4 x2) fun M5 r6 =>
    lr r6 (gK M5) 2 fun b7 =>
    grd ((0 : Int32) = 0 ∨ (0 : Int32) = 1) <| bnd (sI M5 109 b7 (0 : Int32)) fun M8 =>
    (F_X1_shut_p37 (F_X1_shut_p2 k43 n)) M8 x0 x1 x2
    else
    (F_X1_shut_p37 (F_X1_shut_p2 k43 n)) M2 x0 x1 x2
def F_X1_shut_p43 (M : Mem) : Option (Mem × Unit) :=
  some (M, ())
def F_X1_shut (M : Mem) (a0 : Nat) (a1 : Int32) : Option (Mem × Unit) :=
  (F_X1_shut_p2 F_X1_shut_p43 FU) M a0 a1 (0 : Int32)
abbrev P_X11_ahead : MP := (RX11, cX11_ahead, 5, (some .long), 7, 176)
def F_X11_ahead_p20 (M : Mem) (x0 : Nat) : Option (Mem × Int64) :=
  cl (F_X11_refuseLong M x0 (-1 : Int32)) fun M1 r2 =>
  some (M1, r2)
def F_X11_ahead_p35 (M : Mem) (x0 : Nat) : Option (Mem × Int64) :=
  cl (F_X11_refuseLong M x0 (-2 : Int32)) fun M1 r2 =>
  some (M1, r2)
def F_X11_ahead_p154 (M : Mem) (y0 : Int64) : Option (Mem × Int64) :=
  some (M, y0)
def F_X11_ahead_p89 (M : Mem) (x0 : Nat) (x1 : Int32) (x2 : Int32) (x3 : Int32) : Option (Mem × Int64) :=
  lr (gR M 1206 x0) (gK M) 3 fun b1 =>
  lr (gR M 1205 x0) (gK M) 3 fun b2 =>
  cl (F_X1_follow M b1 b2) fun M3 _ =>
  lr (gR M3 1206 x0) (gK M3) 3 fun b5 =>
  cl (F_X1_shut M3 b5 x2) fun M6 _ =>
  cl (F_X11_passColdest M6 x0 x1) fun M8 _ =>
  if x3 = (2 : Int32) then
  lr (gR M8 1206 x0) (gK M8) 3 fun b10 =>
  lr (gR M8 204 b10) (gK M8) 21 fun b11 =>
  grd (inb (5 : Int32) (gN M8 b11)) <|
  lr (gR M8 1205 x0) (gK M8) 3 fun b12 =>
  lr (gR M8 204 b12) (gK M8) 21 fun b13 =>
  grd (inb (5 : Int32) (gN M8 b13)) <|
  some (M8, (gB M8 b11 (ixn (5 : Int32))) - (gB M8 b13 (ixn (5 : Int32))))
  else
  if x3 = 0 then
  F_X11_ahead_p154 M8 (gJ M8 1209 x0)
  else
  F_X11_ahead_p154 M8 ((gI M8 1210 x0).toInt64)
def F_X11_ahead (M : Mem) (a0 : Nat) (a1 : Int32) (a2 : Int32) (a3 : Int32) : Option (Mem × Int64) :=
  if a2 < 0 then
  F_X11_ahead_p20 M a0
  else
  lr (gR M 1205 a0) (gK M) 3 fun b1 =>
  lr (gR M 203 b1) (gK M) 1 fun b2 =>
  cl (F_Jx4a65c_size_8abf5 M b2) fun M3 r4 =>
  if a2 < ((1 : Int32) <<< (r4 &&& 31)) then
  if a3 < 0 then
  F_X11_ahead_p35 M3 a0
  else
  if a3 ≤ (2 : Int32) then
  cl (F_X11_beyond M3 a1 (1 : Int32) (500 : Int32)) fun M5 r6 =>
  if r6 = 0 then
  if a3 = (2 : Int32) then
  F_X11_ahead_p89 M5 a0 a1 a2 a3
  else
  lr (gR M5 1205 a0) (gK M5) 3 fun b7 =>
  lr (gR M5 203 b7) (gK M5) 1 fun b8 =>
  cl (F_Jx4a65c_isEmpty_aae02 M5 b8) fun M9 r10 =>
  if r10 = 0 then
  F_X11_ahead_p89 M9 a0 a1 a2 a3
  else
  cl (F_X11_refuseLong M9 a0 (-3 : Int32)) fun M11 r12 =>
  some (M11, r12)
  else
  cl (F_X11_refuseLong M5 a0 r6) fun M13 r14 =>
  some (M13, r14)
  else
  F_X11_ahead_p35 M3 a0
  else
  F_X11_ahead_p20 M3 a0
abbrev P_X8_leastCost : MP := (RX8, cX8_leastCost, 1, (some .long), 0, 0)
def F_X8_leastCost (M : Mem) (a0 : Nat) : Option (Mem × Int64) :=
  lr (gR M 905 a0) (gK M) 24 fun b1 =>
  grd (inb (0 : Int32) (gN M b1)) <|
  lr (gO M b1 (ixn (0 : Int32))) (gK M) 21 fun b2 =>
  grd (inb (0 : Int32) (gN M b2)) <|
  some (M, gB M b2 (ixn (0 : Int32)))
abbrev P_X8_costOf : MP := (RX8, cX8_costOf, 7, (some .long), 0, 0)
def F_X8_costOf_p36 (M : Mem) : Option (Mem × Int64) :=
  some (M, (4000000000000000000 : Int64))
def F_X8_costOf_p95 (M : Mem) (y0 : Int64) : Option (Mem × Int64) :=
  some (M, y0)
def F_X8_costOf (M : Mem) (a0 : Nat) (a1 : Int32) (a2 : Int32) (a3 : Int32) : Option (Mem × Int64) :=
  bnd (a2 + a3) fun v1 =>
  if a1 < 0 then
  F_X8_costOf_p36 M
  else
  if (24 : Int32) ≤ a1 then
  F_X8_costOf_p36 M
  else
  if v1 < 0 then
  F_X8_costOf_p36 M
  else
  if (gI M 900 a0) < v1 then
  F_X8_costOf_p36 M
  else
  if v1 ≤ (9 : Int32) then
  lr (gR M 903 a0) (gK M) 21 fun b2 =>
  grd (inb a1 (gN M b2)) <|
  bnd ((gB M b2 (ixn a1)) + ((a3.toInt64) * ((gI M 901 a0).toInt64))) fun v3 =>
  if 0 ≤ (lg_cmp v3 (0 : Int64)) then
  lr (gR M 904 a0) (gK M) 21 fun b4 =>
  grd (inb a1 (gN M b4)) <|
  lr (gR M 905 a0) (gK M) 24 fun b5 =>
  grd (inb (a1 + (1 : Int32)) (gN M b5)) <|
  lr (gO M b5 (ixn (a1 + (1 : Int32)))) (gK M) 21 fun b6 =>
  grd (inb v1 (gN M b6)) <|
  F_X8_costOf_p95 M (((v3 * (gB M b4 (ixn a1))) / (100 : Int64)) + (gB M b6 (ixn v1)))
  else
  F_X8_costOf_p95 M (4000000000000000000 : Int64)
  else
  F_X8_costOf_p36 M
abbrev P_X8_leastFrom : MP := (RX8, cX8_leastFrom, 6, (some .long), 1, 30)
def F_X8_leastFrom_p8 (k33 : Mem → Int64 → Option (Mem × Int64)) : Nat → Mem → Nat → Int32 → Int32 → Int64 → Int32 → Option (Mem × Int64)
  | 0, _, _, _, _, _, _ => none
  | n + 1, M, x0, x1, x2, x3, x5 =>
    if (3 : Int32) < x5 then
    k33 M x3
    else
    cl (F_X8_costOf M x0 x1 x2 x5) fun M1 r2 =>
    bnd (if r2 < x3 then r2 else x3) fun v3 =>
    bnd (x5 + 1) fun v4 =>
    (F_X8_leastFrom_p8 k33 n) M1 x0 x1 x2 v3 v4
def F_X8_leastFrom_p33 (M : Mem) (x3 : Int64) : Option (Mem × Int64) :=
  some (M, x3)
def F_X8_leastFrom (M : Mem) (a0 : Nat) (a1 : Int32) (a2 : Int32) : Option (Mem × Int64) :=
  (F_X8_leastFrom_p8 F_X8_leastFrom_p33 FU) M a0 a1 a2 (4000000000000000000 : Int64) (-3 : Int32)
abbrev P_X8_firstBest : MP := (RX8, cX8_firstBest, 6, (some .int), 2, 55)
def F_X8_firstBest_p11 (k30 : Mem → Int32 → Option (Mem × Int32)) (k39 : Mem → Option (Mem × Int32)) : Nat → Mem → Nat → Int32 → Int32 → Int64 → Int32 → Option (Mem × Int32)
  | 0, _, _, _, _, _, _ => none
  | n + 1, M, x0, x1, x2, x3, x5 =>
    if (3 : Int32) < x5 then
    k39 M
    else
    cl (F_X8_costOf M x0 x1 x2 x5) fun M1 r2 =>
    if (lg_cmp r2 x3) = 0 then
    k30 M1 x5
    else
    bnd (x5 + 1) fun v3 =>
    (F_X8_firstBest_p11 k30 k39 n) M1 x0 x1 x2 x3 v3
def F_X8_firstBest_p30 (M : Mem) (x5 : Int32) : Option (Mem × Int32) :=
  some (M, x5)
def F_X8_firstBest_p39 (M : Mem) : Option (Mem × Int32) :=
  some (M, (0 : Int32))
def F_X8_firstBest (M : Mem) (a0 : Nat) (a1 : Int32) (a2 : Int32) : Option (Mem × Int32) :=
  cl (F_X8_leastFrom M a0 a1 a2) fun M1 r2 =>
  (F_X8_firstBest_p11 F_X8_firstBest_p30 F_X8_firstBest_p39 FU) M1 a0 a1 a2 r2 (-3 : Int32)
abbrev P_X8_plan : MP := (RX8, cX8_plan, 6, none, 4, 93)
def F_X8_plan_p2 (k44 : Mem → Nat → Option (Mem × Unit)) : Nat → Mem → Nat → Nat → Int32 → Int32 → Option (Mem × Unit)
  | 0, _, _, _, _, _ => none
  | n + 1, M, x0, x1, x2, x3 =>
    if (24 : Int32) ≤ x3 then
    k44 M x0
    else
    lr (gR M 903 x0) (gK M) 21 fun b1 =>
    cl (F_X10_needOf M x1 (x2 + x3)) fun M2 r3 =>
    grd (inb x3 (gN M2 b1)) <| bnd (sB M2 b1 (ixn x3) r3) fun M4 =>
    lr (gR M4 904 x0) (gK M4) 21 fun b5 =>
    lr (gR M4 1102 x1) (gK M4) 20 fun b6 =>
    cl (F_X11_inRound M4 b6 (x2 + x3)) fun M7 r8 =>
    grd (inb x3 (gN M7 b5)) <| bnd (sB M7 b5 (ixn x3) (r8.toInt64)) fun M9 =>
    bnd (x3 + 1) fun v10 =>
    (F_X8_plan_p2 k44 n) M9 x0 x1 x2 v10
def F_X8_plan_p54 (k92 : Mem → Nat → Int32 → Option (Mem × Unit)) : Nat → Mem → Nat → Int32 → Int32 → Option (Mem × Unit)
  | 0, _, _, _, _ => none
  | n + 1, M, x0, x3, x4 =>
    if (gI M 900 x0) < x4 then
    k92 M x0 x3
    else
    if (9 : Int32) < x4 then
    k92 M x0 x3
    else
    lr (gR M 905 x0) (gK M) 24 fun b1 =>
    grd (inb x3 (gN M b1)) <|
    lr (gO M b1 (ixn x3)) (gK M) 21 fun b2 =>
    cl (F_X8_leastFrom M x0 x3 x4) fun M3 r4 =>
    grd (inb x4 (gN M3 b2)) <| bnd (sB M3 b2 (ixn x4) r4) fun M5 =>
    bnd (x4 + 1) fun v6 =>
    (F_X8_plan_p54 k92 n) M5 x0 x3 v6
def F_X8_plan_p92 (k47 : Mem → Nat → Int32 → Option (Mem × Unit)) (M : Mem) (x0 : Nat) (x3 : Int32) : Option (Mem × Unit) :=
  bnd (x3 + (-1)) fun v1 =>
  k47 M x0 v1
def F_X8_plan_p47 (k98 : Mem → Nat → Option (Mem × Unit)) : Nat → Mem → Nat → Int32 → Option (Mem × Unit)
  | 0, _, _, _ => none
  | n + 1, M, x0, x3 =>
    if x3 < 0 then
    k98 M x0
    else
    (F_X8_plan_p54 (F_X8_plan_p92 (F_X8_plan_p47 k98 n)) FU) M x0 x3 (0 : Int32)
def F_X8_plan_p103 (k154 : Mem → Option (Mem × Unit)) : Nat → Mem → Nat → Int32 → Int32 → Option (Mem × Unit)
  | 0, _, _, _, _ => none
  | n + 1, M, x0, x3, x4 =>
    if (24 : Int32) ≤ x4 then
    k154 M
    else
    cl (F_X8_firstBest M x0 x4 x3) fun M1 r2 =>
    lr (gR M1 902 x0) (gK M1) 21 fun b3 =>
    lr (gR M1 903 x0) (gK M1) 21 fun b4 =>
    grd (inb x4 (gN M1 b4)) <|
    grd (inb x4 (gN M1 b3)) <| bnd (sB M1 b3 (ixn x4) ((gB M1 b4 (ixn x4)) + ((r2.toInt64) * ((gI M1 901 x0).toInt64)))) fun M5 =>
    bnd (x3 + r2) fun v6 =>
    bnd (x4 + 1) fun v7 =>
    (F_X8_plan_p103 k154 n) M5 x0 v6 v7
def F_X8_plan_p154 (M : Mem) : Option (Mem × Unit) :=
  some (M, ())
def F_X8_plan_p98 (M : Mem) (x0 : Nat) : Option (Mem × Unit) :=
  (F_X8_plan_p103 F_X8_plan_p154 FU) M x0 (0 : Int32) (0 : Int32)
def F_X8_plan_p44 (M : Mem) (x0 : Nat) : Option (Mem × Unit) :=
  (F_X8_plan_p47 F_X8_plan_p98 FU) M x0 (23 : Int32)
def F_X8_plan (M : Mem) (a0 : Nat) (a1 : Nat) (a2 : Int32) : Option (Mem × Unit) :=
  (F_X8_plan_p2 F_X8_plan_p44 FU) M a0 a1 a2 (0 : Int32)
abbrev P_X11_best : MP := (RX11, cX11_best, 2, (some .long), 5, 118)
def F_X11_best_p10 (M : Mem) (x0 : Nat) : Option (Mem × Int64) :=
  cl (F_X11_refuseLong M x0 (-2 : Int32)) fun M1 r2 =>
  some (M1, r2)
def F_X11_best_p66 (M : Mem) (y0 : Int64) : Option (Mem × Int64) :=
  some (M, y0)
def F_X11_best (M : Mem) (a0 : Nat) (a1 : Int32) : Option (Mem × Int64) :=
  if a1 < 0 then
  F_X11_best_p10 M a0
  else
  if a1 ≤ (24 : Int32) then
  lr (gR M 1204 a0) (gK M) 10 fun b1 =>
  lr (gR M 1200 a0) (gK M) 12 fun b2 =>
  lr (gR M 1205 a0) (gK M) 3 fun b3 =>
  cl (F_X8_plan M b1 b2 (gI M 206 b3)) fun M4 _ =>
  lr (gR M4 1204 a0) (gK M4) 10 fun b6 =>
  lr (gR M4 902 b6) (gK M4) 21 fun b7 =>
  if (Int32.ofNat (gN M4 b7)) ≤ a1 then
  lr (gR M4 1204 a0) (gK M4) 10 fun b8 =>
  cl (F_X8_leastCost M4 b8) fun M9 r10 =>
  F_X11_best_p66 M9 r10
  else
  lr (gR M4 1204 a0) (gK M4) 10 fun b11 =>
  lr (gR M4 902 b11) (gK M4) 21 fun b12 =>
  grd (inb a1 (gN M4 b12)) <|
  F_X11_best_p66 M4 (gB M4 b12 (ixn a1))
  else
  F_X11_best_p10 M a0
abbrev P_X11_bore : MP := (RX11, cX11_bore, 7, (some .int), 8, 199)
def F_X11_bore_p25 (M : Mem) (x0 : Nat) : Option (Mem × Int32) :=
  cl (F_X11_refuse M x0 (-4 : Int32)) fun M1 r2 =>
  some (M1, r2)
def F_X11_bore_p86 (M : Mem) (x0 : Nat) : Option (Mem × Int32) :=
  cl (F_X11_refuse M x0 (-6 : Int32)) fun M1 r2 =>
  some (M1, r2)
def F_X11_bore (M : Mem) (a0 : Nat) (a1 : Int32) (a2 : Int32) (a3 : Int32) (a4 : Int32) (a5 : Int32) : Option (Mem × Int32) :=
  if a1 < 0 then
  F_X11_bore_p25 M a0
  else
  if a2 < (1 : Int32) then
  F_X11_bore_p25 M a0
  else
  if a3 < (100 : Int32) then
  F_X11_bore_p25 M a0
  else
  if a4 < 0 then
  F_X11_bore_p25 M a0
  else
  if 0 ≤ a5 then
  lr (gR M 1205 a0) (gK M) 3 fun b1 =>
  lr (gR M 203 b1) (gK M) 1 fun b2 =>
  cl (F_Jx4a65c_size_8abf5 M b2) fun M3 r4 =>
  if (9999 : Int32) < a1 then
  F_X11_bore_p86 M3 a0
  else
  if (8 : Int32) < a2 then
  F_X11_bore_p86 M3 a0
  else
  if (9999 : Int32) < a3 then
  F_X11_bore_p86 M3 a0
  else
  if (999 : Int32) < a4 then
  F_X11_bore_p86 M3 a0
  else
  if (99 : Int32) < a5 then
  F_X11_bore_p86 M3 a0
  else
  if r4 < (8 : Int32) then
  lr (gR M3 1205 a0) (gK M3) 3 fun b5 =>
  lr (gR M3 203 b5) (gK M3) 1 fun b6 =>
  bnd (gH M3) fun b7 => bnd (nO M3 2 11) fun M8 =>
  cl (F_X0_init M8 b7 r4 a1 a2 a3 a4 a5) fun M9 _ =>
  cl (F_Jx4a65c_add_9ea2d M9 b6 b7) fun M11 r12 =>
  lr (gR M11 1206 a0) (gK M11) 3 fun b13 =>
  lr (gR M11 203 b13) (gK M11) 1 fun b14 =>
  bnd (gH M11) fun b15 => bnd (nO M11 2 11) fun M16 =>
  cl (F_X0_init M16 b15 r4 a1 a2 a3 a4 a5) fun M17 _ =>
  cl (F_Jx4a65c_add_9ea2d M17 b14 b15) fun M19 r20 =>
  some (M19, r4)
  else
  F_X11_bore_p86 M3 a0
  else
  F_X11_bore_p25 M a0
abbrev P_X11_firstOf : MP := (RX11, cX11_firstOf, 2, (some .int), 0, 0)
def F_X11_firstOf_p9 (M : Mem) (y0 : Int32) : Option (Mem × Int32) :=
  some (M, y0)
def F_X11_firstOf (M : Mem) (a0 : Int32) (a1 : Int32) : Option (Mem × Int32) :=
  if a0 = 0 then
  F_X11_firstOf_p9 M a1
  else
  F_X11_firstOf_p9 M a0
abbrev P_X11_replace : MP := (RX11, cX11_replace, 4, (some .int), 0, 0)
def F_X11_replace_p10 (M : Mem) : Option (Mem × Int32) :=
  some (M, (0 : Int32))
def F_X11_replace (M : Mem) (a0 : Nat) (a1 : Int32) (a2 : Int32) : Option (Mem × Int32) :=
  if a1 < 0 then
  F_X11_replace_p10 M
  else
  if a1 < (Int32.ofNat (gN M a0)) then
  grd (inb a1 (gN M a0)) <|
  bnd (gA M a0 (ixn a1)) fun v1 =>
  grd (inb a1 (gN M a0)) <| bnd (sA M a0 (ixn a1) a2) fun M2 =>
  some (M2, v1)
  else
  F_X11_replace_p10 M
abbrev P_X11_cold : MP := (RX11, cX11_cold, 4, (some .int), 1, 23)
def F_X11_cold (M : Mem) (a0 : Nat) (a1 : Int32) (a2 : Int32) : Option (Mem × Int32) :=
  cl (F_X11_beyond M a1 (0 : Int32) (11 : Int32)) fun M1 r2 =>
  cl (F_X11_beyond M1 a2 (-40 : Int32) (40 : Int32)) fun M3 r4 =>
  cl (F_X11_firstOf M3 r2 r4) fun M5 r6 =>
  if r6 = 0 then
  lr (gR M5 1200 a0) (gK M5) 12 fun b7 =>
  lr (gR M5 1101 b7) (gK M5) 20 fun b8 =>
  cl (F_X11_replace M5 b8 a1 a2) fun M9 r10 =>
  some (M9, r10)
  else
  cl (F_X11_refuse M5 a0 r6) fun M11 r12 =>
  some (M11, (1000000000 : Int32) - r12)
abbrev P_X1_openOnes : MP := (RX1, cX1_openOnes, 3, (some .int), 3, 64)
def F_X1_openOnes_p38 (k4 : Mem → Nat → Int32 → Int32 → Option (Mem × Int32)) (M : Mem) (x0 : Nat) (x2 : Int32) (y0 : Int32) (y1 : Int32) : Option (Mem × Int32) :=
  bnd (y0 + y1) fun v1 =>
  bnd (x2 + 1) fun v2 =>
  k4 M x0 v1 v2
def F_X1_openOnes_p4 (k46 : Mem → Int32 → Option (Mem × Int32)) : Nat → Mem → Nat → Int32 → Int32 → Option (Mem × Int32)
  | 0, _, _, _, _ => none
  | n + 1, M, x0, x1, x2 =>
    lr (gR M 203 x0) (gK M) 1 fun b1 =>
    cl (F_Jx4a65c_size_8abf5 M b1) fun M2 r3 =>
    if r3 ≤ x2 then
    k46 M2 x1
    else
    lr (gR M2 203 x0) (gK M2) 1 fun b4 =>
    cl (F_Jx4a65c_get_915e3 M2 b4 x2) fun M5 r6 =>
    lr r6 (gK M5) 2 fun b7 =>
    if (gI M5 109 b7) = 0 then
    (F_X1_openOnes_p38 (F_X1_openOnes_p4 k46 n)) M5 x0 x2 x1 (0 : Int32)
    else
    (F_X1_openOnes_p38 (F_X1_openOnes_p4 k46 n)) M5 x0 x2 x1 (1 : Int32)
def F_X1_openOnes_p46 (M : Mem) (x1 : Int32) : Option (Mem × Int32) :=
  some (M, x1)
def F_X1_openOnes (M : Mem) (a0 : Nat) : Option (Mem × Int32) :=
  (F_X1_openOnes_p4 F_X1_openOnes_p46 FU) M a0 (0 : Int32) (0 : Int32)
abbrev P_X11_count : MP := (RX11, cX11_count, 2, (some .int), 4, 87)
def F_X11_count_p175 (M : Mem) (y0 : Int32) : Option (Mem × Int32) :=
  some (M, y0)
def F_X11_count_p173 (M : Mem) : Option (Mem × Int32) :=
  F_X11_count_p175 M (-9 : Int32)
def F_X11_count (M : Mem) (a0 : Nat) (a1 : Int32) : Option (Mem × Int32) :=
  swi a1 0 [lr (gR M 1205 a0) (gK M) 3 fun b1 =>
  some (M, gI M 206 b1),
  lr (gR M 1205 a0) (gK M) 3 fun b2 =>
  lr (gR M 203 b2) (gK M) 1 fun b3 =>
  cl (F_Jx4a65c_size_8abf5 M b3) fun M4 r5 =>
  some (M4, r5),
  lr (gR M 1205 a0) (gK M) 3 fun b6 =>
  cl (F_X1_openOnes M b6) fun M7 r8 =>
  some (M7, r8),
  lr (gR M 1200 a0) (gK M) 12 fun b9 =>
  lr (gR M 1100 b9) (gK M) 1 fun b10 =>
  cl (F_Jx4a65c_size_8abf5 M b10) fun M11 r12 =>
  some (M11, r12),
  lr (gR M 1200 a0) (gK M) 12 fun b13 =>
  lr (gR M 1205 a0) (gK M) 3 fun b14 =>
  cl (F_X10_joinedOn M b13 ((gI M 206 b14) / (24 : Int32))) fun M15 r16 =>
  some (M15, r16),
  lr (gR M 1201 a0) (gK M) 9 fun b17 =>
  some (M, gI M 802 b17),
  lr (gR M 1202 a0) (gK M) 8 fun b18 =>
  lr (gR M 700 b18) (gK M) 1 fun b19 =>
  cl (F_Jx4a65c_size_8abf5 M b19) fun M20 r21 =>
  some (M20, r21),
  lr (gR M 1203 a0) (gK M) 11 fun b22 =>
  some (M, gI M 1002 b22),
  lr (gR M 1207 a0) (gK M) 1 fun b23 =>
  cl (F_Jx4a65c_size_8abf5 M b23) fun M24 r25 =>
  some (M24, r25)] (
  if a1 ≤ (10 : Int32) then
  F_X11_count_p173 M
  else
  lr (gR M 1208 a0) (gK M) 20 fun b26 =>
  if (Int32.ofNat (gN M b26)) ≤ (a1 - (10 : Int32)) then
  F_X11_count_p173 M
  else
  lr (gR M 1208 a0) (gK M) 20 fun b27 =>
  grd (inb (a1 - (10 : Int32)) (gN M b27)) <|
  F_X11_count_p175 M (gA M b27 (ixn (a1 - (10 : Int32)))))
abbrev P_X9_put : MP := (RX9, cX9_put, 2, none, 0, 0)
def F_X9_put_p39 (M : Mem) : Option (Mem × Unit) :=
  some (M, ())
def F_X9_put (M : Mem) (a0 : Nat) (a1 : Int32) : Option (Mem × Unit) :=
  if (gI M 1002 a0) < 0 then
  F_X9_put_p39 M
  else
  lr (gR M 1000 a0) (gK M) 20 fun b1 =>
  if (Int32.ofNat (gN M b1)) ≤ (gI M 1002 a0) then
  F_X9_put_p39 M
  else
  lr (gR M 1000 a0) (gK M) 20 fun b2 =>
  grd (inb (gI M 1002 a0) (gN M b2)) <| bnd (sA M b2 (ixn (gI M 1002 a0)) a1) fun M3 =>
  bnd (sI M3 1002 a0 ((gI M3 1002 a0) + (1 : Int32))) fun M4 =>
  F_X9_put_p39 M4
abbrev P_X11_feed : MP := (RX11, cX11_feed, 5, (some .int), 1, 21)
def F_X11_feed_p32 (M : Mem) (x0 : Nat) : Option (Mem × Int32) :=
  cl (F_X11_refuse M x0 (-6 : Int32)) fun M1 r2 =>
  some (M1, r2)
def F_X11_feed_p42 (k73 : Mem → Nat → Option (Mem × Int32)) : Nat → Mem → Nat → Int32 → Int64 → Int32 → Option (Mem × Int32)
  | 0, _, _, _, _, _ => none
  | n + 1, M, x0, x1, x2, x4 =>
    if x1 ≤ x4 then
    k73 M x0
    else
    lr (gR M 1203 x0) (gK M) 11 fun b1 =>
    cl (F_X9_put M b1 ((((x2.toUInt64 >>> (((8 : Int32) * x4).toInt64.toUInt64 &&& Int64.toUInt64 63)).toInt64).toInt32) &&& (255 : Int32))) fun M2 _ =>
    bnd (x4 + 1) fun v4 =>
    (F_X11_feed_p42 k73 n) M2 x0 x1 x2 v4
def F_X11_feed_p73 (M : Mem) (x0 : Nat) : Option (Mem × Int32) :=
  lr (gR M 1203 x0) (gK M) 11 fun b1 =>
  some (M, gI M 1002 b1)
def F_X11_feed (M : Mem) (a0 : Nat) (a1 : Int32) (a2 : Int64) : Option (Mem × Int32) :=
  if (1 : Int32) ≤ a1 then
  if (8 : Int32) < a1 then
  F_X11_feed_p32 M a0
  else
  lr (gR M 1203 a0) (gK M) 11 fun b1 =>
  if a1 ≤ ((60 : Int32) - (gI M 1002 b1)) then
  (F_X11_feed_p42 F_X11_feed_p73 FU) M a0 a1 a2 (0 : Int32)
  else
  F_X11_feed_p32 M a0
  else
  cl (F_X11_refuse M a0 (-4 : Int32)) fun M2 r3 =>
  some (M2, r3)
abbrev P_X1_openOnly : MP := (RX1, cX1_openOnly, 3, none, 3, 64)
def F_X1_openOnly_p38 (k2 : Mem → Nat → Int32 → Int32 → Option (Mem × Unit)) (M : Mem) (x0 : Nat) (x1 : Int32) (x2 : Int32) (y0 : Nat) (y1 : Int32) : Option (Mem × Unit) :=
  grd (y1 = 0 ∨ y1 = 1) <| bnd (sI M 109 y0 y1) fun M1 =>
  bnd (x2 + 1) fun v2 =>
  k2 M1 x0 x1 v2
def F_X1_openOnly_p2 (k47 : Mem → Option (Mem × Unit)) : Nat → Mem → Nat → Int32 → Int32 → Option (Mem × Unit)
  | 0, _, _, _, _ => none
  | n + 1, M, x0, x1, x2 =>
    lr (gR M 203 x0) (gK M) 1 fun b1 =>
    cl (F_Jx4a65c_size_8abf5 M b1) fun M2 r3 =>
    if r3 ≤ x2 then
    k47 M2
    else
    lr (gR M2 203 x0) (gK M2) 1 fun b4 =>
    cl (F_Jx4a65c_get_915e3 M2 b4 x2) fun M5 r6 =>
    lr r6 (gK M5) 2 fun b7 =>
    if ((x1 >>> (x2 &&& 31)) &&& (1 : Int32)) = (1 : Int32) then
    (F_X1_openOnly_p38 (F_X1_openOnly_p2 k47 n)) M5 x0 x1 x2 b7 (1 : Int32)
    else
    (F_X1_openOnly_p38 (F_X1_openOnly_p2 k47 n)) M5 x0 x1 x2 b7 (0 : Int32)
def F_X1_openOnly_p47 (M : Mem) : Option (Mem × Unit) :=
  some (M, ())
def F_X1_openOnly (M : Mem) (a0 : Nat) (a1 : Int32) : Option (Mem × Unit) :=
  (F_X1_openOnly_p2 F_X1_openOnly_p47 FU) M a0 a1 (0 : Int32)
abbrev P_X11_isEnough : MP := (RX11, cX11_isEnough, 8, (some .boolean), 6, 151)
def F_X11_isEnough_p35 (k69 : Mem → Nat → Int64 → Option (Mem × Int32)) : Nat → Mem → Nat → Int32 → Int64 → Int32 → Option (Mem × Int32)
  | 0, _, _, _, _, _ => none
  | n + 1, M, x0, x2, x5, x7 =>
    if x2 ≤ x7 then
    k69 M x0 x5
    else
    lr (gR M 1206 x0) (gK M) 3 fun b1 =>
    lr (gR M 204 b1) (gK M) 21 fun b2 =>
    grd (inb (5 : Int32) (gN M b2)) <|
    if 0 < (lg_cmp (gB M b2 (ixn (5 : Int32))) x5) then
    k69 M x0 x5
    else
    lr (gR M 1206 x0) (gK M) 3 fun b3 =>
    cl (F_X1_pass M b3) fun M4 _ =>
    bnd (x7 + 1) fun v6 =>
    (F_X11_isEnough_p35 k69 n) M4 x0 x2 x5 v6
def F_X11_isEnough_p89 (M : Mem) (y0 : Int32) : Option (Mem × Int32) :=
  grd (y0 = 0 ∨ y0 = 1) <| some (M, y0)
def F_X11_isEnough_p69 (M : Mem) (x0 : Nat) (x5 : Int64) : Option (Mem × Int32) :=
  lr (gR M 1206 x0) (gK M) 3 fun b1 =>
  lr (gR M 204 b1) (gK M) 21 fun b2 =>
  grd (inb (5 : Int32) (gN M b2)) <|
  if 0 < (lg_cmp (gB M b2 (ixn (5 : Int32))) x5) then
  F_X11_isEnough_p89 M (0 : Int32)
  else
  F_X11_isEnough_p89 M (1 : Int32)
def F_X11_isEnough (M : Mem) (a0 : Nat) (a1 : Int32) (a2 : Int32) (a3 : Int64) : Option (Mem × Int32) :=
  lr (gR M 1206 a0) (gK M) 3 fun b1 =>
  lr (gR M 1205 a0) (gK M) 3 fun b2 =>
  cl (F_X1_follow M b1 b2) fun M3 _ =>
  lr (gR M3 1206 a0) (gK M3) 3 fun b5 =>
  cl (F_X1_openOnly M3 b5 a1) fun M6 _ =>
  lr (gR M6 1205 a0) (gK M6) 3 fun b8 =>
  lr (gR M6 204 b8) (gK M6) 21 fun b9 =>
  grd (inb (5 : Int32) (gN M6 b9)) <|
  bnd ((gB M6 b9 (ixn (5 : Int32))) + a3) fun v10 =>
  (F_X11_isEnough_p35 F_X11_isEnough_p69 FU) M6 a0 a2 v10 (0 : Int32)
abbrev P_X11_few : MP := (RX11, cX11_few, 6, (some .int), 7, 178)
def F_X11_few_p9 (M : Mem) (x0 : Nat) : Option (Mem × Int32) :=
  cl (F_X11_refuse M x0 (-4 : Int32)) fun M1 r2 =>
  some (M1, r2)
def F_X11_few_p28 (M : Mem) (x0 : Nat) : Option (Mem × Int32) :=
  cl (F_X11_refuse M x0 (-6 : Int32)) fun M1 r2 =>
  some (M1, r2)
def F_X11_few_p91 (k58 : Mem → Nat → Int32 → Int32 → Int32 → Int32 → Int32 → Option (Mem × Int32)) (M : Mem) (x0 : Nat) (x1 : Int32) (x2 : Int32) (x3 : Int32) (x4 : Int32) (x5 : Int32) : Option (Mem × Int32) :=
  bnd (x5 + 1) fun v1 =>
  k58 M x0 x1 x2 x3 x4 v1
def F_X11_few_p58 (k88 : Mem → Int32 → Option (Mem × Int32)) (k97 : Mem → Nat → Int32 → Int32 → Int32 → Int32 → Option (Mem × Int32)) : Nat → Mem → Nat → Int32 → Int32 → Int32 → Int32 → Int32 → Option (Mem × Int32)
  | 0, _, _, _, _, _, _, _ => none
  | n + 1, M, x0, x1, x2, x3, x4, x5 =>
    if ((1 : Int32) <<< (x3 &&& 31)) ≤ x5 then
    k97 M x0 x1 x2 x3 x4
    else
    cl (F_J6_bitCount_0f7a4 M x5) fun M1 r2 =>
    if r2 = x4 then
    cl (F_X11_isEnough M1 x0 x5 x1 (x2.toInt64)) fun M3 r4 =>
    if r4 = 0 then
    (F_X11_few_p91 (F_X11_few_p58 k88 k97 n)) M3 x0 x1 x2 x3 x4 x5
    else
    k88 M3 x5
    else
    (F_X11_few_p91 (F_X11_few_p58 k88 k97 n)) M1 x0 x1 x2 x3 x4 x5
def F_X11_few_p97 (k49 : Mem → Nat → Int32 → Int32 → Int32 → Int32 → Option (Mem × Int32)) (M : Mem) (x0 : Nat) (x1 : Int32) (x2 : Int32) (x3 : Int32) (x4 : Int32) : Option (Mem × Int32) :=
  bnd (x4 + 1) fun v1 =>
  k49 M x0 x1 x2 x3 v1
def F_X11_few_p49 (k88 : Mem → Int32 → Option (Mem × Int32)) (k103 : Mem → Option (Mem × Int32)) : Nat → Mem → Nat → Int32 → Int32 → Int32 → Int32 → Option (Mem × Int32)
  | 0, _, _, _, _, _, _ => none
  | n + 1, M, x0, x1, x2, x3, x4 =>
    if x3 < x4 then
    k103 M
    else
    (F_X11_few_p58 k88 (F_X11_few_p97 (F_X11_few_p49 k88 k103 n)) FU) M x0 x1 x2 x3 x4 (0 : Int32)
def F_X11_few_p88 (M : Mem) (x5 : Int32) : Option (Mem × Int32) :=
  some (M, x5)
def F_X11_few_p103 (M : Mem) : Option (Mem × Int32) :=
  some (M, (-9 : Int32))
def F_X11_few (M : Mem) (a0 : Nat) (a1 : Int32) (a2 : Int32) : Option (Mem × Int32) :=
  if a1 < (1 : Int32) then
  F_X11_few_p9 M a0
  else
  if 0 ≤ a2 then
  if (100 : Int32) < a1 then
  F_X11_few_p28 M a0
  else
  if a2 ≤ (1000000000 : Int32) then
  lr (gR M 1205 a0) (gK M) 3 fun b1 =>
  lr (gR M 203 b1) (gK M) 1 fun b2 =>
  cl (F_Jx4a65c_size_8abf5 M b2) fun M3 r4 =>
  (F_X11_few_p49 F_X11_few_p88 F_X11_few_p103 FU) M3 a0 a1 a2 r4 (0 : Int32)
  else
  F_X11_few_p28 M a0
  else
  F_X11_few_p9 M a0
abbrev P_X1_find : MP := (RX1, cX1_find, 2, (some (.object "RockHeat$Bore")), 3, 64)
def F_X1_find_p30 (M : Mem) (y0 : Option Nat) : Option (Mem × Option Nat) :=
  some (M, y0)
def F_X1_find_p15 (M : Mem) : Option (Mem × Option Nat) :=
  F_X1_find_p30 M none
def F_X1_find (M : Mem) (a0 : Nat) (a1 : Int32) : Option (Mem × Option Nat) :=
  if a1 < 0 then
  F_X1_find_p15 M
  else
  lr (gR M 203 a0) (gK M) 1 fun b1 =>
  cl (F_Jx4a65c_size_8abf5 M b1) fun M2 r3 =>
  if a1 < r3 then
  lr (gR M2 203 a0) (gK M2) 1 fun b4 =>
  cl (F_Jx4a65c_get_915e3 M2 b4 a1) fun M5 r6 =>
  lr r6 (gK M5) 2 fun b7 =>
  F_X1_find_p30 M5 (some b7)
  else
  F_X1_find_p15 M2
abbrev P_X11_findRing : MP := (RX11, cX11_findRing, 4, (some (.object "RockHeat$Ring")), 4, 85)
def F_X11_findRing_p28 (M : Mem) : Option (Mem × Option Nat) :=
  some (M, none)
def F_X11_findRing (M : Mem) (a0 : Nat) (a1 : Int32) (a2 : Int32) : Option (Mem × Option Nat) :=
  lr (gR M 1205 a0) (gK M) 3 fun b1 =>
  cl (F_X1_find M b1 a1) fun M2 r3 =>
  nul r3 (
  F_X11_findRing_p28 M2) fun b4 =>
  if a2 < 0 then
  F_X11_findRing_p28 M2
  else
  grd (gK M2 b4 = 2) <|
  lr (gR M2 104 b4) (gK M2) 1 fun b5 =>
  cl (F_Jx4a65c_size_8abf5 M2 b5) fun M6 r7 =>
  if a2 < r7 then
  lr (gR M6 104 b4) (gK M6) 1 fun b8 =>
  cl (F_Jx4a65c_get_915e3 M6 b8 a2) fun M9 r10 =>
  lr r10 (gK M9) 6 fun b11 =>
  some (M9, some b11)
  else
  F_X11_findRing_p28 M6
abbrev P_X11_frozen : MP := (RX11, cX11_frozen, 3, (some .int), 4, 85)
def F_X11_frozen_p31 (M : Mem) (y0 : Int32) : Option (Mem × Int32) :=
  some (M, y0)
def F_X11_frozen (M : Mem) (a0 : Nat) (a1 : Int32) : Option (Mem × Int32) :=
  lr (gR M 1205 a0) (gK M) 3 fun b1 =>
  cl (F_X1_find M b1 a1) fun M2 r3 =>
  nul r3 (
  cl (F_X11_refuse M2 a0 (-1 : Int32)) fun M5 r6 =>
  some (M5, r6)) fun b4 =>
  grd (gK M2 b4 = 2) <|
  cl (F_X0_isFrozen M2 b4) fun M7 r8 =>
  if r8 = 0 then
  F_X11_frozen_p31 M7 (0 : Int32)
  else
  F_X11_frozen_p31 M7 (1 : Int32)
abbrev P_X11_given : MP := (RX11, cX11_given, 3, (some .long), 4, 85)
def F_X11_given_p25 (M : Mem) (y0 : Int64) : Option (Mem × Int64) :=
  some (M, y0)
def F_X11_given (M : Mem) (a0 : Nat) (a1 : Int32) : Option (Mem × Int64) :=
  lr (gR M 1205 a0) (gK M) 3 fun b1 =>
  cl (F_X1_find M b1 a1) fun M2 r3 =>
  nul r3 (
  cl (F_X11_refuseLong M2 a0 (-1 : Int32)) fun M5 r6 =>
  F_X11_given_p25 M5 r6) fun b4 =>
  grd (gK M2 b4 = 2) <|
  F_X11_given_p25 M2 (gJ M2 110 b4)
abbrev P_X11_givenInMind : MP := (RX11, cX11_givenInMind, 5, (some .long), 6, 151)
def F_X11_givenInMind_p22 (k41 : Mem → Nat → Int32 → Option (Mem × Int64)) : Nat → Mem → Nat → Int32 → Int32 → Int32 → Option (Mem × Int64)
  | 0, _, _, _, _, _ => none
  | n + 1, M, x0, x1, x3, x4 =>
    if x3 ≤ x4 then
    k41 M x0 x1
    else
    lr (gR M 1206 x0) (gK M) 3 fun b1 =>
    cl (F_X1_pass M b1) fun M2 _ =>
    bnd (x4 + 1) fun v4 =>
    (F_X11_givenInMind_p22 k41 n) M2 x0 x1 x3 v4
def F_X11_givenInMind_p65 (M : Mem) (y0 : Int64) : Option (Mem × Int64) :=
  some (M, y0)
def F_X11_givenInMind_p41 (M : Mem) (x0 : Nat) (x1 : Int32) : Option (Mem × Int64) :=
  lr (gR M 1206 x0) (gK M) 3 fun b1 =>
  cl (F_X1_find M b1 x1) fun M2 r3 =>
  nul r3 (
  F_X11_givenInMind_p65 M2 (0 : Int64)) fun b4 =>
  grd (gK M2 b4 = 2) <|
  F_X11_givenInMind_p65 M2 (gJ M2 110 b4)
def F_X11_givenInMind (M : Mem) (a0 : Nat) (a1 : Int32) (a2 : Int32) (a3 : Int32) : Option (Mem × Int64) :=
  lr (gR M 1206 a0) (gK M) 3 fun b1 =>
  lr (gR M 1205 a0) (gK M) 3 fun b2 =>
  cl (F_X1_follow M b1 b2) fun M3 _ =>
  lr (gR M3 1206 a0) (gK M3) 3 fun b5 =>
  cl (F_X1_shut M3 b5 a2) fun M6 _ =>
  (F_X11_givenInMind_p22 F_X11_givenInMind_p41 FU) M6 a0 a1 a3 (0 : Int32)
abbrev P_X11_heat : MP := (RX11, cX11_heat, 4, (some .long), 5, 108)
def F_X11_heat_p23 (M : Mem) (y0 : Int64) : Option (Mem × Int64) :=
  some (M, y0)
def F_X11_heat (M : Mem) (a0 : Nat) (a1 : Int32) (a2 : Int32) : Option (Mem × Int64) :=
  cl (F_X11_findRing M a0 a1 a2) fun M1 r2 =>
  nul r2 (
  cl (F_X11_refuseLong M1 a0 (-1 : Int32)) fun M4 r5 =>
  F_X11_heat_p23 M4 r5) fun b3 =>
  grd (gK M1 b3 = 6) <|
  F_X11_heat_p23 M1 (gJ M1 502 b3)
abbrev P_X11_hours : MP := (RX11, cX11_hours, 4, (some .int), 6, 151)
def F_X11_hours_p29 (k47 : Mem → Nat → Option (Mem × Int32)) : Nat → Mem → Nat → Int32 → Int32 → Option (Mem × Int32)
  | 0, _, _, _, _ => none
  | n + 1, M, x0, x1, x3 =>
    if x1 ≤ x3 then
    k47 M x0
    else
    lr (gR M 1205 x0) (gK M) 3 fun b1 =>
    cl (F_X1_pass M b1) fun M2 _ =>
    bnd (x3 + 1) fun v4 =>
    (F_X11_hours_p29 k47 n) M2 x0 x1 v4
def F_X11_hours_p47 (M : Mem) (x0 : Nat) : Option (Mem × Int32) :=
  lr (gR M 1205 x0) (gK M) 3 fun b1 =>
  some (M, gI M 206 b1)
def F_X11_hours (M : Mem) (a0 : Nat) (a1 : Int32) : Option (Mem × Int32) :=
  lr (gR M 1205 a0) (gK M) 3 fun b1 =>
  cl (F_X11_beyond M a1 (1 : Int32) ((8000 : Int32) - (gI M 206 b1))) fun M2 r3 =>
  if r3 = 0 then
  (F_X11_hours_p29 F_X11_hours_p47 FU) M2 a0 a1 (0 : Int32)
  else
  cl (F_X11_refuse M2 a0 r3) fun M4 r5 =>
  some (M4, r5)
abbrev P_X2_init : MP := (RX2, cX2_init, 4, none, 1, 20)
def F_X2_init (M : Mem) (a0 : Nat) (a1 : Int32) (a2 : Int32) (a3 : Int32) : Option (Mem × Unit) :=
  bnd (sI M 300 a0 a1) fun M1 =>
  bnd (sI M1 301 a0 a2) fun M2 =>
  bnd (sI M2 302 a0 a3) fun M3 =>
  some (M3, ())
abbrev P_X11_house : MP := (RX11, cX11_house, 5, (some .int), 7, 171)
def F_X11_house_p12 (M : Mem) (x0 : Nat) : Option (Mem × Int32) :=
  cl (F_X11_refuse M x0 (-4 : Int32)) fun M1 r2 =>
  some (M1, r2)
def F_X11_house_p58 (M : Mem) (x0 : Nat) : Option (Mem × Int32) :=
  cl (F_X11_refuse M x0 (-6 : Int32)) fun M1 r2 =>
  some (M1, r2)
def F_X11_house (M : Mem) (a0 : Nat) (a1 : Int32) (a2 : Int32) (a3 : Int32) : Option (Mem × Int32) :=
  if a1 < 0 then
  F_X11_house_p12 M a0
  else
  if a2 < 0 then
  F_X11_house_p12 M a0
  else
  if 0 ≤ a3 then
  lr (gR M 1200 a0) (gK M) 12 fun b1 =>
  lr (gR M 1100 b1) (gK M) 1 fun b2 =>
  cl (F_Jx4a65c_size_8abf5 M b2) fun M3 r4 =>
  if (9999 : Int32) < a1 then
  F_X11_house_p58 M3 a0
  else
  if (999 : Int32) < a2 then
  F_X11_house_p58 M3 a0
  else
  if (16777215 : Int32) < a3 then
  F_X11_house_p58 M3 a0
  else
  if r4 < (20 : Int32) then
  lr (gR M3 1200 a0) (gK M3) 12 fun b5 =>
  lr (gR M3 1100 b5) (gK M3) 1 fun b6 =>
  bnd (gH M3) fun b7 => bnd (nO M3 4 5) fun M8 =>
  cl (F_X2_init M8 b7 a1 a2 a3) fun M9 _ =>
  cl (F_Jx4a65c_add_9ea2d M9 b6 b7) fun M11 r12 =>
  some (M11, r4)
  else
  F_X11_house_p58 M3 a0
  else
  F_X11_house_p12 M a0
abbrev P_X1_init : MP := (RX1, cX1_init, 4, none, 4, 80)
def F_X1_init (M : Mem) (a0 : Nat) (a1 : Nat) (a2 : Nat) (a3 : Nat) : Option (Mem × Unit) :=
  bnd (gH M) fun b1 => bnd (nO M 1 3) fun M2 =>
  cl (F_Jx4a65c_init_da8c8 M2 b1) fun M3 _ =>
  bnd (sR M3 203 a0 (some b1)) fun M5 =>
  grd (0 ≤ (9 : Int32).toInt ∧ (9 : Int32).toInt ≤ 10000) <| bnd (gH M5) fun b6 => bnd (nA M5 21 (ixn (9 : Int32))) fun M7 =>
  bnd (sR M7 204 a0 (some b6)) fun M8 =>
  bnd (sR M8 200 a0 (some a1)) fun M9 =>
  bnd (sR M9 201 a0 (some a2)) fun M10 =>
  bnd (sR M10 202 a0 (some a3)) fun M11 =>
  some (M11, ())
abbrev P_X6_init : MP := (RX6, cX6_init, 1, none, 4, 80)
def F_X6_init (M : Mem) (a0 : Nat) : Option (Mem × Unit) :=
  bnd (gH M) fun b1 => bnd (nO M 1 3) fun M2 =>
  cl (F_Jx4a65c_init_da8c8 M2 b1) fun M3 _ =>
  bnd (sR M3 700 a0 (some b1)) fun M5 =>
  grd (0 ≤ (9 : Int32).toInt ∧ (9 : Int32).toInt ≤ 10000) <| bnd (gH M5) fun b6 => bnd (nA M5 21 (ixn (9 : Int32))) fun M7 =>
  bnd (sR M7 701 a0 (some b6)) fun M8 =>
  grd (0 ≤ (60 : Int32).toInt ∧ (60 : Int32).toInt ≤ 10000) <| bnd (gH M8) fun b9 => bnd (nA M8 21 (ixn (60 : Int32))) fun M10 =>
  bnd (sR M10 702 a0 (some b9)) fun M11 =>
  some (M11, ())
abbrev P_X7_init : MP := (RX7, cX7_init, 1, none, 1, 20)
def F_X7_init (M : Mem) (a0 : Nat) : Option (Mem × Unit) :=
  grd (0 ≤ (8 : Int32).toInt ∧ (8 : Int32).toInt ≤ 10000) <| bnd (gH M) fun b1 => bnd (nA M 20 (ixn (8 : Int32))) fun M2 =>
  bnd (sR M2 800 a0 (some b1)) fun M3 =>
  grd (0 ≤ (8 : Int32).toInt ∧ (8 : Int32).toInt ≤ 10000) <| bnd (gH M3) fun b4 => bnd (nA M3 20 (ixn (8 : Int32))) fun M5 =>
  bnd (sR M5 801 a0 (some b4)) fun M6 =>
  some (M6, ())
abbrev P_X8_init : MP := (RX8, cX8_init, 1, none, 1, 20)
def F_X8_init (M : Mem) (a0 : Nat) : Option (Mem × Unit) :=
  bnd (sI M 901 a0 (100 : Int32)) fun M1 =>
  grd (0 ≤ (24 : Int32).toInt ∧ (24 : Int32).toInt ≤ 10000) <| bnd (gH M1) fun b2 => bnd (nA M1 21 (ixn (24 : Int32))) fun M3 =>
  bnd (sR M3 902 a0 (some b2)) fun M4 =>
  grd (0 ≤ (24 : Int32).toInt ∧ (24 : Int32).toInt ≤ 10000) <| bnd (gH M4) fun b5 => bnd (nA M4 21 (ixn (24 : Int32))) fun M6 =>
  bnd (sR M6 903 a0 (some b5)) fun M7 =>
  grd (0 ≤ (24 : Int32).toInt ∧ (24 : Int32).toInt ≤ 10000) <| bnd (gH M7) fun b8 => bnd (nA M7 21 (ixn (24 : Int32))) fun M9 =>
  bnd (sR M9 904 a0 (some b8)) fun M10 =>
  bnd (gH M10) fun b11 => bnd (nM M10 25 10) fun M12 =>
  bnd (sR M12 905 a0 (some b11)) fun M13 =>
  some (M13, ())
abbrev P_X9_init : MP := (RX9, cX9_init, 1, none, 1, 20)
def F_X9_init (M : Mem) (a0 : Nat) : Option (Mem × Unit) :=
  grd (0 ≤ (60 : Int32).toInt ∧ (60 : Int32).toInt ≤ 10000) <| bnd (gH M) fun b1 => bnd (nA M 20 (ixn (60 : Int32))) fun M2 =>
  bnd (sR M2 1000 a0 (some b1)) fun M3 =>
  grd (0 ≤ (60 : Int32).toInt ∧ (60 : Int32).toInt ≤ 10000) <| bnd (gH M3) fun b4 => bnd (nA M3 20 (ixn (60 : Int32))) fun M5 =>
  bnd (sR M5 1001 a0 (some b4)) fun M6 =>
  some (M6, ())
abbrev P_X11_init : MP := (RX11, cX11_init, 1, none, 5, 103)
def F_X11_init (M : Mem) (a0 : Nat) : Option (Mem × Unit) :=
  bnd (gH M) fun b1 => bnd (nO M 12 4) fun M2 =>
  cl (F_X10_init M2 b1) fun M3 _ =>
  bnd (sR M3 1200 a0 (some b1)) fun M5 =>
  bnd (gH M5) fun b6 => bnd (nO M5 9 3) fun M7 =>
  cl (F_X7_init M7 b6) fun M8 _ =>
  bnd (sR M8 1201 a0 (some b6)) fun M10 =>
  bnd (gH M10) fun b11 => bnd (nO M10 8 3) fun M12 =>
  cl (F_X6_init M12 b11) fun M13 _ =>
  bnd (sR M13 1202 a0 (some b11)) fun M15 =>
  bnd (gH M15) fun b16 => bnd (nO M15 11 6) fun M17 =>
  cl (F_X9_init M17 b16) fun M18 _ =>
  bnd (sR M18 1203 a0 (some b16)) fun M20 =>
  bnd (gH M20) fun b21 => bnd (nO M20 10 6) fun M22 =>
  cl (F_X8_init M22 b21) fun M23 _ =>
  bnd (sR M23 1204 a0 (some b21)) fun M25 =>
  bnd (gH M25) fun b26 => bnd (nO M25 3 7) fun M27 =>
  lr (gR M27 1200 a0) (gK M27) 12 fun b28 =>
  lr (gR M27 1201 a0) (gK M27) 9 fun b29 =>
  lr (gR M27 1202 a0) (gK M27) 8 fun b30 =>
  cl (F_X1_init M27 b26 b28 b29 b30) fun M31 _ =>
  bnd (sR M31 1205 a0 (some b26)) fun M33 =>
  bnd (gH M33) fun b34 => bnd (nO M33 3 7) fun M35 =>
  lr (gR M35 1200 a0) (gK M35) 12 fun b36 =>
  lr (gR M35 1201 a0) (gK M35) 9 fun b37 =>
  lr (gR M35 1202 a0) (gK M35) 8 fun b38 =>
  cl (F_X1_init M35 b34 b36 b37 b38) fun M39 _ =>
  bnd (sR M39 1206 a0 (some b34)) fun M41 =>
  bnd (gH M41) fun b42 => bnd (nO M41 1 3) fun M43 =>
  cl (F_Jx4a65c_init_da8c8 M43 b42) fun M44 _ =>
  bnd (sR M44 1207 a0 (some b42)) fun M46 =>
  grd (0 ≤ (7 : Int32).toInt ∧ (7 : Int32).toInt ≤ 10000) <| bnd (gH M46) fun b47 => bnd (nA M46 20 (ixn (7 : Int32))) fun M48 =>
  bnd (sR M48 1208 a0 (some b47)) fun M49 =>
  some (M49, ())
abbrev P_X11_join : MP := (RX11, cX11_join, 5, (some .int), 3, 64)
def F_X11_join_p18 (M : Mem) (x0 : Nat) : Option (Mem × Int32) :=
  cl (F_X11_refuse M x0 (-1 : Int32)) fun M1 r2 =>
  some (M1, r2)
def F_X11_join (M : Mem) (a0 : Nat) (a1 : Int32) (a2 : Int32) : Option (Mem × Int32) :=
  if a1 < 0 then
  F_X11_join_p18 M a0
  else
  lr (gR M 1200 a0) (gK M) 12 fun b1 =>
  lr (gR M 1100 b1) (gK M) 1 fun b2 =>
  cl (F_Jx4a65c_size_8abf5 M b2) fun M3 r4 =>
  if a1 < r4 then
  lr (gR M3 1200 a0) (gK M3) 12 fun b5 =>
  lr (gR M3 1100 b5) (gK M3) 1 fun b6 =>
  cl (F_Jx4a65c_get_915e3 M3 b6 a1) fun M7 r8 =>
  lr r8 (gK M7) 4 fun b9 =>
  if (gI M7 303 b9) = 0 then
  lr (gR M7 1205 a0) (gK M7) 3 fun b10 =>
  cl (F_X11_beyond M7 a2 ((gI M7 206 b10) / (24 : Int32)) (333 : Int32)) fun M11 r12 =>
  if r12 = 0 then
  grd ((1 : Int32) = 0 ∨ (1 : Int32) = 1) <| bnd (sI M11 303 b9 (1 : Int32)) fun M13 =>
  bnd (sI M13 304 b9 a2) fun M14 =>
  some (M14, (1 : Int32))
  else
  cl (F_X11_refuse M11 a0 r12) fun M15 r16 =>
  some (M15, r16)
  else
  cl (F_X11_refuse M7 a0 (-3 : Int32)) fun M17 r18 =>
  some (M17, r18)
  else
  F_X11_join_p18 M3 a0
abbrev P_X11_leak : MP := (RX11, cX11_leak, 7, (some .long), 4, 85)
def F_X11_leak_p77 (k27 : Mem → Nat → Int32 → Nat → Option Nat → Option Nat → Int32 → Option (Mem × Int64)) (M : Mem) (x0 : Nat) (x1 : Int32) (x2 : Nat) (x3 : Option Nat) (x4 : Option Nat) (x5 : Int32) : Option (Mem × Int64) :=
  bnd (x5 + 1) fun v1 =>
  k27 M x0 x1 x2 x3 x4 v1
def F_X11_leak_p72 (k27 : Mem → Nat → Int32 → Nat → Option Nat → Option Nat → Int32 → Option (Mem × Int64)) (M : Mem) (x0 : Nat) (x1 : Int32) (x2 : Nat) (x5 : Int32) (x6 : Nat) (y0 : Nat) : Option (Mem × Int64) :=
  (F_X11_leak_p77 k27) M x0 x1 x2 (some y0) (some x6) x5
def F_X11_leak_p27 (k83 : Mem → Nat → Nat → Option Nat → Option Nat → Option (Mem × Int64)) : Nat → Mem → Nat → Int32 → Nat → Option Nat → Option Nat → Int32 → Option (Mem × Int64)
  | 0, _, _, _, _, _, _, _ => none
  | n + 1, M, x0, x1, x2, x3, x4, x5 =>
    lr (gR M 1207 x0) (gK M) 1 fun b1 =>
    cl (F_Jx4a65c_size_8abf5 M b1) fun M2 r3 =>
    if r3 ≤ x5 then
    k83 M2 x0 x2 x3 x4
    else
    lr (gR M2 1207 x0) (gK M2) 1 fun b4 =>
    cl (F_Jx4a65c_get_915e3 M2 b4 x5) fun M5 r6 =>
    lr r6 (gK M5) 5 fun b7 =>
    if (gI M5 400 b7) = x1 then
    nul x3 (
    (F_X11_leak_p72 (F_X11_leak_p27 k83 n)) M5 x0 x1 x2 x5 b7 b7) fun b8 =>
    (F_X11_leak_p72 (F_X11_leak_p27 k83 n)) M5 x0 x1 x2 x5 b7 b8
    else
    (F_X11_leak_p77 (F_X11_leak_p27 k83 n)) M5 x0 x1 x2 x3 x4 x5
def F_X11_leak_p104 (M : Mem) (x0 : Nat) : Option (Mem × Int64) :=
  cl (F_X11_refuseLong M x0 (-3 : Int32)) fun M1 r2 =>
  some (M1, r2)
def F_X11_leak_p83 (M : Mem) (x0 : Nat) (x2 : Nat) (x3 : Option Nat) (x4 : Option Nat) : Option (Mem × Int64) :=
  nul x3 (
  F_X11_leak_p104 M x0) fun b1 =>
  nul x4 (
  F_X11_leak_p104 M x0) fun b2 =>
  grd (gK M b1 = 5) <|
  grd (gK M b2 = 5) <|
  if (gI M 401 b1) = (gI M 401 b2) then
  F_X11_leak_p104 M x0
  else
  grd (gK M x2 = 2) <|
  lr (gR M 105 x2) (gK M) 6 fun b3 =>
  cl (F_X11_cut M (((gJ M 402 b1) - (gJ M 402 b2)) * (gJ M 500 b3)) (((gI M 401 b2) - (gI M 401 b1)).toInt64)) fun M4 r5 =>
  some (M4, r5)
def F_X11_leak (M : Mem) (a0 : Nat) (a1 : Int32) : Option (Mem × Int64) :=
  lr (gR M 1205 a0) (gK M) 3 fun b1 =>
  cl (F_X1_find M b1 a1) fun M2 r3 =>
  nul r3 (
  cl (F_X11_refuseLong M2 a0 (-1 : Int32)) fun M5 r6 =>
  some (M5, r6)) fun b4 =>
  (F_X11_leak_p27 F_X11_leak_p83 FU) M2 a0 a1 b4 none none (0 : Int32)
abbrev P_X11_lift : MP := (RX11, cX11_lift, 3, (some .int), 2, 52)
def F_X11_lift_p31 (M : Mem) (y0 : Int32) : Option (Mem × Int32) :=
  some (M, y0)
def F_X11_lift (M : Mem) (a0 : Nat) (a1 : Int32) : Option (Mem × Int32) :=
  cl (F_X11_beyond M a1 (-100000 : Int32) (200000 : Int32)) fun M1 r2 =>
  if r2 = 0 then
  lr (gR M1 1201 a0) (gK M1) 9 fun b3 =>
  cl (F_X7_liftAt M1 b3 (a1.toInt64)) fun M4 r5 =>
  F_X11_lift_p31 M4 (r5.toInt32)
  else
  cl (F_X11_refuse M1 a0 r2) fun M6 r7 =>
  F_X11_lift_p31 M6 r7
abbrev P_X11_may : MP := (RX11, cX11_may, 5, (some .int), 4, 93)
def F_X11_may_p35 (M : Mem) (x0 : Nat) (x2 : Int32) (x3 : Nat) : Option (Mem × Int32) :=
  lr (gR M 1205 x0) (gK M) 3 fun b1 =>
  bnd (gI M 206 b1) fun v2 =>
  lr (gR M 1202 x0) (gK M) 8 fun b3 =>
  lr (gR M 1200 x0) (gK M) 12 fun b4 =>
  lr (gR M 1200 x0) (gK M) 12 fun b5 =>
  cl (F_X10_needOf M b5 v2) fun M6 r7 =>
  cl (F_X6_tellHour M6 b3 b4 v2 r7) fun M8 _ =>
  lr (gR M8 1202 x0) (gK M8) 8 fun b10 =>
  lr (gR M8 1202 x0) (gK M8) 8 fun b11 =>
  cl (F_X6_inForce M8 b11 x2 (v2 / (24 : Int32))) fun M12 r13 =>
  grd (gK M12 x3 = 2) <|
  cl (F_X6_worth M12 b10 r13 x3) fun M14 r15 =>
  some (M14, r15.toInt32)
def F_X11_may (M : Mem) (a0 : Nat) (a1 : Int32) (a2 : Int32) : Option (Mem × Int32) :=
  lr (gR M 1205 a0) (gK M) 3 fun b1 =>
  cl (F_X1_find M b1 a1) fun M2 r3 =>
  nul r3 (
  cl (F_X11_refuse M2 a0 (-1 : Int32)) fun M5 r6 =>
  some (M5, r6)) fun b4 =>
  if a2 = 0 then
  F_X11_may_p35 M2 a0 a2 b4
  else
  if a2 = (1 : Int32) then
  F_X11_may_p35 M2 a0 a2 b4
  else
  cl (F_X11_refuse M2 a0 (-2 : Int32)) fun M7 r8 =>
  some (M7, r8)
abbrev P_X11_need : MP := (RX11, cX11_need, 3, (some .long), 4, 93)
def F_X11_need_p29 (M : Mem) (y0 : Int64) : Option (Mem × Int64) :=
  some (M, y0)
def F_X11_need (M : Mem) (a0 : Nat) (a1 : Int32) : Option (Mem × Int64) :=
  cl (F_X11_beyond M a1 (0 : Int32) (9999 : Int32)) fun M1 r2 =>
  if r2 = 0 then
  lr (gR M1 1200 a0) (gK M1) 12 fun b3 =>
  cl (F_X10_needOf M1 b3 a1) fun M4 r5 =>
  F_X11_need_p29 M4 r5
  else
  cl (F_X11_refuseLong M1 a0 r2) fun M6 r7 =>
  F_X11_need_p29 M6 r7
abbrev P_X11_open : MP := (RX11, cX11_open, 4, (some .int), 4, 85)
def F_X11_open (M : Mem) (a0 : Nat) (a1 : Int32) (a2 : Int32) : Option (Mem × Int32) :=
  lr (gR M 1205 a0) (gK M) 3 fun b1 =>
  cl (F_X1_find M b1 a1) fun M2 r3 =>
  nul r3 (
  cl (F_X11_refuse M2 a0 (-1 : Int32)) fun M5 r6 =>
  some (M5, r6)) fun b4 =>
  grd (gK M2 b4 = 2) <|
  if (gI M2 109 b4) = a2 then
  some (M2, (0 : Int32))
  else
  grd (a2 = 0 ∨ a2 = 1) <| bnd (sI M2 109 b4 a2) fun M7 =>
  some (M7, (1 : Int32))
abbrev P_X7_addPoint : MP := (RX7, cX7_addPoint, 3, none, 0, 0)
def F_X7_addPoint_p61 (M : Mem) : Option (Mem × Unit) :=
  some (M, ())
def F_X7_addPoint (M : Mem) (a0 : Nat) (a1 : Int32) (a2 : Int32) : Option (Mem × Unit) :=
  if (gI M 802 a0) < 0 then
  F_X7_addPoint_p61 M
  else
  lr (gR M 800 a0) (gK M) 20 fun b1 =>
  if (Int32.ofNat (gN M b1)) ≤ (gI M 802 a0) then
  F_X7_addPoint_p61 M
  else
  lr (gR M 801 a0) (gK M) 20 fun b2 =>
  if (Int32.ofNat (gN M b2)) ≤ (gI M 802 a0) then
  F_X7_addPoint_p61 M
  else
  lr (gR M 800 a0) (gK M) 20 fun b3 =>
  grd (inb (gI M 802 a0) (gN M b3)) <| bnd (sA M b3 (ixn (gI M 802 a0)) a1) fun M4 =>
  lr (gR M4 801 a0) (gK M4) 20 fun b5 =>
  grd (inb (gI M4 802 a0) (gN M4 b5)) <| bnd (sA M4 b5 (ixn (gI M4 802 a0)) a2) fun M6 =>
  bnd (sI M6 802 a0 ((gI M6 802 a0) + (1 : Int32))) fun M7 =>
  F_X7_addPoint_p61 M7
abbrev P_X7_isAboveLast : MP := (RX7, cX7_isAboveLast, 3, (some .boolean), 0, 0)
def F_X7_isAboveLast_p35 (M : Mem) (y0 : Int32) : Option (Mem × Int32) :=
  grd (y0 = 0 ∨ y0 = 1) <| some (M, y0)
def F_X7_isAboveLast_p30 (M : Mem) : Option (Mem × Int32) :=
  F_X7_isAboveLast_p35 M (1 : Int32)
def F_X7_isAboveLast (M : Mem) (a0 : Nat) (a1 : Int32) : Option (Mem × Int32) :=
  bnd ((gI M 802 a0) - (1 : Int32)) fun v1 =>
  if v1 < 0 then
  F_X7_isAboveLast_p30 M
  else
  lr (gR M 800 a0) (gK M) 20 fun b2 =>
  if (Int32.ofNat (gN M b2)) ≤ v1 then
  F_X7_isAboveLast_p30 M
  else
  lr (gR M 800 a0) (gK M) 20 fun b3 =>
  grd (inb v1 (gN M b3)) <|
  if a1 ≤ (gA M b3 (ixn v1)) then
  F_X7_isAboveLast_p35 M (0 : Int32)
  else
  F_X7_isAboveLast_p30 M
abbrev P_X11_point : MP := (RX11, cX11_point, 3, (some .int), 1, 22)
def F_X11_point_p23 (M : Mem) (x0 : Nat) : Option (Mem × Int32) :=
  cl (F_X11_refuse M x0 (-4 : Int32)) fun M1 r2 =>
  some (M1, r2)
def F_X11_point_p55 (M : Mem) (x0 : Nat) : Option (Mem × Int32) :=
  cl (F_X11_refuse M x0 (-6 : Int32)) fun M1 r2 =>
  some (M1, r2)
def F_X11_point (M : Mem) (a0 : Nat) (a1 : Int32) (a2 : Int32) : Option (Mem × Int32) :=
  if a1 < (-20 : Int32) then
  F_X11_point_p23 M a0
  else
  if a2 < (100 : Int32) then
  F_X11_point_p23 M a0
  else
  lr (gR M 1201 a0) (gK M) 9 fun b1 =>
  cl (F_X7_isAboveLast M b1 a1) fun M2 r3 =>
  if r3 = 0 then
  F_X11_point_p23 M2 a0
  else
  if (99 : Int32) < a1 then
  F_X11_point_p55 M2 a0
  else
  if (999 : Int32) < a2 then
  F_X11_point_p55 M2 a0
  else
  lr (gR M2 1201 a0) (gK M2) 9 fun b4 =>
  if (gI M2 802 b4) < (8 : Int32) then
  lr (gR M2 1201 a0) (gK M2) 9 fun b5 =>
  cl (F_X7_addPoint M2 b5 a1 a2) fun M6 _ =>
  lr (gR M6 1201 a0) (gK M6) 9 fun b8 =>
  some (M6, gI M6 802 b8)
  else
  F_X11_point_p55 M2 a0
abbrev P_X11_price : MP := (RX11, cX11_price, 4, (some .int), 1, 23)
def F_X11_price_p43 (M : Mem) (y0 : Int32) : Option (Mem × Int32) :=
  some (M, y0)
def F_X11_price (M : Mem) (a0 : Nat) (a1 : Int32) (a2 : Int32) : Option (Mem × Int32) :=
  cl (F_X11_beyond M a1 (0 : Int32) (23 : Int32)) fun M1 r2 =>
  cl (F_X11_beyond M1 a2 (0 : Int32) (999 : Int32)) fun M3 r4 =>
  cl (F_X11_firstOf M3 r2 r4) fun M5 r6 =>
  if r6 = 0 then
  lr (gR M5 1200 a0) (gK M5) 12 fun b7 =>
  lr (gR M5 1102 b7) (gK M5) 20 fun b8 =>
  cl (F_X11_replace M5 b8 a1 a2) fun M9 r10 =>
  F_X11_price_p43 M9 r10
  else
  cl (F_X11_refuse M5 a0 r6) fun M11 r12 =>
  F_X11_price_p43 M11 r12
abbrev P_X3_init : MP := (RX3, cX3_init, 5, none, 1, 20)
def F_X3_init (M : Mem) (a0 : Nat) (a1 : Int32) (a2 : Int32) (a3 : Int64) : Option (Mem × Unit) :=
  bnd (sI M 400 a0 a1) fun M1 =>
  bnd (sI M1 401 a0 a2) fun M2 =>
  bnd (sJ M2 402 a0 a3) fun M3 =>
  some (M3, ())
abbrev P_X11_reading : MP := (RX11, cX11_reading, 5, (some .int), 7, 171)
def F_X11_reading_p54 (M : Mem) (x0 : Nat) : Option (Mem × Int32) :=
  cl (F_X11_refuse M x0 (-6 : Int32)) fun M1 r2 =>
  some (M1, r2)
def F_X11_reading (M : Mem) (a0 : Nat) (a1 : Int32) (a2 : Int32) : Option (Mem × Int32) :=
  lr (gR M 1205 a0) (gK M) 3 fun b1 =>
  cl (F_X1_find M b1 a1) fun M2 r3 =>
  nul r3 (
  cl (F_X11_refuse M2 a0 (-1 : Int32)) fun M5 r6 =>
  some (M5, r6)) fun b4 =>
  lr (gR M2 1207 a0) (gK M2) 1 fun b7 =>
  cl (F_Jx4a65c_size_8abf5 M2 b7) fun M8 r9 =>
  if (-100000 : Int32) ≤ a2 then
  if (200000 : Int32) < a2 then
  F_X11_reading_p54 M8 a0
  else
  if r9 < (20 : Int32) then
  lr (gR M8 1207 a0) (gK M8) 1 fun b10 =>
  bnd (gH M8) fun b11 => bnd (nO M8 5 3) fun M12 =>
  lr (gR M12 1205 a0) (gK M12) 3 fun b13 =>
  grd (gK M12 b4 = 2) <|
  lr (gR M12 105 b4) (gK M12) 6 fun b14 =>
  cl (F_X3_init M12 b11 a1 (gI M12 206 b13) ((a2.toInt64) - (gJ M12 503 b14))) fun M15 _ =>
  cl (F_Jx4a65c_add_9ea2d M15 b10 b11) fun M17 r18 =>
  some (M17, r9)
  else
  F_X11_reading_p54 M8 a0
  else
  cl (F_X11_refuse M8 a0 (-4 : Int32)) fun M19 r20 =>
  some (M19, r20)
abbrev P_X5_init : MP := (RX5, cX5_init, 5, none, 1, 20)
def F_X5_init (M : Mem) (a0 : Nat) (a1 : Int32) (a2 : Int32) (a3 : Nat) (a4 : Int32) : Option (Mem × Unit) :=
  bnd (sI M 600 a0 a1) fun M1 =>
  bnd (sI M1 601 a0 a2) fun M2 =>
  bnd (sR M2 602 a0 (some a3)) fun M3 =>
  bnd (sI M3 603 a0 a4) fun M4 =>
  some (M4, ())
abbrev P_X9_fail : MP := (RX9, cX9_fail, 1, none, 0, 0)
def F_X9_fail_p16 (M : Mem) : Option (Mem × Unit) :=
  some (M, ())
def F_X9_fail (M : Mem) (a0 : Nat) : Option (Mem × Unit) :=
  if (gI M 1005 a0) = (-1 : Int32) then
  bnd (sI M 1005 a0 (gI M 1004 a0)) fun M1 =>
  F_X9_fail_p16 M1
  else
  F_X9_fail_p16 M
abbrev P_X9_emit : MP := (RX9, cX9_emit, 2, none, 0, 0)
def F_X9_emit_p39 (M : Mem) : Option (Mem × Unit) :=
  some (M, ())
def F_X9_emit (M : Mem) (a0 : Nat) (a1 : Int32) : Option (Mem × Unit) :=
  if (gI M 1003 a0) < 0 then
  F_X9_emit_p39 M
  else
  lr (gR M 1001 a0) (gK M) 20 fun b1 =>
  if (Int32.ofNat (gN M b1)) ≤ (gI M 1003 a0) then
  F_X9_emit_p39 M
  else
  lr (gR M 1001 a0) (gK M) 20 fun b2 =>
  grd (inb (gI M 1003 a0) (gN M b2)) <| bnd (sA M b2 (ixn (gI M 1003 a0)) a1) fun M3 =>
  bnd (sI M3 1003 a0 ((gI M3 1003 a0) + (1 : Int32))) fun M4 =>
  F_X9_emit_p39 M4
abbrev P_X9_seen : MP := (RX9, cX9_seen, 2, (some .int), 0, 0)
def F_X9_seen_p61 (M : Mem) (y0 : Int32) : Option (Mem × Int32) :=
  some (M, y0)
def F_X9_seen_p43 (M : Mem) (x0 : Nat) (y0 : Int32) : Option (Mem × Int32) :=
  if y0 = 0 then
  F_X9_seen_p61 M (-1 : Int32)
  else
  lr (gR M 1000 x0) (gK M) 20 fun b1 =>
  grd (inb (gI M 1004 x0) (gN M b1)) <|
  F_X9_seen_p61 M (gA M b1 (ixn (gI M 1004 x0)))
def F_X9_seen_p42 (M : Mem) (x0 : Nat) : Option (Mem × Int32) :=
  F_X9_seen_p43 M x0 (0 : Int32)
def F_X9_seen (M : Mem) (a0 : Nat) : Option (Mem × Int32) :=
  if (gI M 1005 a0) = (-1 : Int32) then
  if (gI M 1004 a0) < 0 then
  F_X9_seen_p42 M a0
  else
  if (gI M 1002 a0) ≤ (gI M 1004 a0) then
  F_X9_seen_p42 M a0
  else
  lr (gR M 1000 a0) (gK M) 20 fun b1 =>
  if (Int32.ofNat (gN M b1)) ≤ (gI M 1004 a0) then
  F_X9_seen_p42 M a0
  else
  F_X9_seen_p43 M a0 (1 : Int32)
  else
  F_X9_seen_p42 M a0
abbrev P_X9_isAt : MP := (RX9, cX9_isAt, 3, (some .boolean), 4, 96)
def F_X9_isAt_p24 (M : Mem) (y0 : Int32) : Option (Mem × Int32) :=
  grd (y0 = 0 ∨ y0 = 1) <| some (M, y0)
def F_X9_isAt_p23 (M : Mem) : Option (Mem × Int32) :=
  F_X9_isAt_p24 M (0 : Int32)
def F_X9_isAt (M : Mem) (a0 : Nat) (a1 : Nat) : Option (Mem × Int32) :=
  cl (F_X9_seen M a0) fun M1 r2 =>
  if r2 = (-1 : Int32) then
  F_X9_isAt_p23 M1
  else
  cl (F_J0_indexOf_0f7a4 M1 a1 ((r2.toUInt32 % 65536).toInt32)) fun M3 r4 =>
  if r4 < 0 then
  F_X9_isAt_p23 M3
  else
  F_X9_isAt_p24 M3 (1 : Int32)
abbrev P_X9_takeOperator : MP := (RX9, cX9_takeOperator, 2, (some .int), 4, 96)
def F_X9_takeOperator (M : Mem) (a0 : Nat) : Option (Mem × Int32) :=
  cl (F_X9_seen M a0) fun M1 r2 =>
  cl (F_J0_indexOf_0f7a4 M1 6 ((r2.toUInt32 % 65536).toInt32)) fun M3 r4 =>
  bnd ((-10 : Int32) - r4) fun v5 =>
  bnd (sI M3 1004 a0 ((gI M3 1004 a0) + (1 : Int32))) fun M6 =>
  some (M6, v5)
abbrev P_X9_isAtDigit : MP := (RX9, cX9_isAtDigit, 2, (some .boolean), 1, 21)
def F_X9_isAtDigit_p22 (M : Mem) (y0 : Int32) : Option (Mem × Int32) :=
  grd (y0 = 0 ∨ y0 = 1) <| some (M, y0)
def F_X9_isAtDigit_p21 (M : Mem) : Option (Mem × Int32) :=
  F_X9_isAtDigit_p22 M (0 : Int32)
def F_X9_isAtDigit (M : Mem) (a0 : Nat) : Option (Mem × Int32) :=
  cl (F_X9_seen M a0) fun M1 r2 =>
  if r2 < (48 : Int32) then
  F_X9_isAtDigit_p21 M1
  else
  if (57 : Int32) < r2 then
  F_X9_isAtDigit_p21 M1
  else
  F_X9_isAtDigit_p22 M1 (1 : Int32)
abbrev P_X9_readNumber : MP := (RX9, cX9_readNumber, 3, none, 2, 42)
def F_X9_readNumber_p4 (k45 : Mem → Nat → Int32 → Option (Mem × Unit)) : Nat → Mem → Nat → Int32 → Int32 → Option (Mem × Unit)
  | 0, _, _, _, _ => none
  | n + 1, M, x0, x1, x2 =>
    if (5 : Int32) ≤ x2 then
    k45 M x0 x1
    else
    cl (F_X9_isAtDigit M x0) fun M1 r2 =>
    if r2 = 0 then
    k45 M1 x0 x1
    else
    cl (F_X9_seen M1 x0) fun M3 r4 =>
    bnd ((((10 : Int32) * x1) + r4) - (48 : Int32)) fun v5 =>
    bnd (sI M3 1004 x0 ((gI M3 1004 x0) + (1 : Int32))) fun M6 =>
    bnd (x2 + 1) fun v7 =>
    (F_X9_readNumber_p4 k45 n) M6 x0 v5 v7
def F_X9_readNumber_p45 (M : Mem) (x0 : Nat) (x1 : Int32) : Option (Mem × Unit) :=
  cl (F_X9_emit M x0 x1) fun M1 _ =>
  some (M1, ())
def F_X9_readNumber (M : Mem) (a0 : Nat) : Option (Mem × Unit) :=
  (F_X9_readNumber_p4 F_X9_readNumber_p45 FU) M a0 (0 : Int32) (0 : Int32)
def P_X9_readSum (n : Nat) : MP := (RX9, cX9_readSum, 4, none, 20 + 2 * n, 500 + 60 * n)
def F_X9_readSum_p7 (rec : Nat → Mem → Nat → Int32 → Option (Mem × Unit)) (k43 : Mem → Option (Mem × Unit)) : Nat → Mem → Nat → Int32 → Int32 → Option (Mem × Unit)
  | 0, _, _, _, _ => none
  | n + 1, M, x0, x1, x2 =>
    if (60 : Int32) ≤ x2 then
    k43 M
    else
    cl (F_X9_isAt M x0 0) fun M1 r2 =>
    if r2 = 0 then
    k43 M1
    else
    cl (F_X9_takeOperator M1 x0) fun M3 r4 =>
    cl (rec 1 M3 x0 x1) fun M5 _ =>
    cl (F_X9_emit M5 x0 r4) fun M7 _ =>
    bnd (x2 + 1) fun v9 =>
    (F_X9_readSum_p7 rec k43 n) M7 x0 x1 v9
def F_X9_readSum_p43 (rec : Nat → Mem → Nat → Int32 → Option (Mem × Unit)) (M : Mem) : Option (Mem × Unit) :=
  some (M, ())
def B_X9_readSum (rec : Nat → Mem → Nat → Int32 → Option (Mem × Unit)) (M : Mem) (a0 : Nat) (a1 : Int32) : Option (Mem × Unit) :=
  cl (rec 1 M a0 a1) fun M1 _ =>
  (F_X9_readSum_p7 rec (F_X9_readSum_p43 rec) FU) M1 a0 a1 (0 : Int32)
def P_X9_readTerm (n : Nat) : MP := (RX9, cX9_readTerm, 4, none, 20 + 2 * n, 500 + 60 * n)
def F_X9_readTerm_p7 (rec : Nat → Mem → Nat → Int32 → Option (Mem × Unit)) (k43 : Mem → Option (Mem × Unit)) : Nat → Mem → Nat → Int32 → Int32 → Option (Mem × Unit)
  | 0, _, _, _, _ => none
  | n + 1, M, x0, x1, x2 =>
    if (60 : Int32) ≤ x2 then
    k43 M
    else
    cl (F_X9_isAt M x0 1) fun M1 r2 =>
    if r2 = 0 then
    k43 M1
    else
    cl (F_X9_takeOperator M1 x0) fun M3 r4 =>
    cl (rec 2 M3 x0 x1) fun M5 _ =>
    cl (F_X9_emit M5 x0 r4) fun M7 _ =>
    bnd (x2 + 1) fun v9 =>
    (F_X9_readTerm_p7 rec k43 n) M7 x0 x1 v9
def F_X9_readTerm_p43 (rec : Nat → Mem → Nat → Int32 → Option (Mem × Unit)) (M : Mem) : Option (Mem × Unit) :=
  some (M, ())
def B_X9_readTerm (rec : Nat → Mem → Nat → Int32 → Option (Mem × Unit)) (M : Mem) (a0 : Nat) (a1 : Int32) : Option (Mem × Unit) :=
  cl (rec 2 M a0 a1) fun M1 _ =>
  (F_X9_readTerm_p7 rec (F_X9_readTerm_p43 rec) FU) M1 a0 a1 (0 : Int32)
def P_X9_readUnit (n : Nat) : MP := (RX9, cX9_readUnit, 2, none, 20 + 2 * n, 500 + 60 * n)
def F_X9_readUnit_p90 (rec : Nat → Mem → Nat → Int32 → Option (Mem × Unit)) (M : Mem) : Option (Mem × Unit) :=
  some (M, ())
def F_X9_readUnit_p86 (rec : Nat → Mem → Nat → Int32 → Option (Mem × Unit)) (M : Mem) (x0 : Nat) : Option (Mem × Unit) :=
  cl (F_X9_fail M x0) fun M1 _ =>
  (F_X9_readUnit_p90 rec) M1
def B_X9_readUnit (rec : Nat → Mem → Nat → Int32 → Option (Mem × Unit)) (M : Mem) (a0 : Nat) (a1 : Int32) : Option (Mem × Unit) :=
  cl (F_X9_isAtDigit M a0) fun M1 r2 =>
  if r2 = 0 then
  cl (F_X9_isAt M1 a0 2) fun M3 r4 =>
  if r4 = 0 then
  cl (F_X9_isAt M3 a0 3) fun M5 r6 =>
  if r6 = 0 then
  (F_X9_readUnit_p86 rec) M5 a0
  else
  if (5 : Int32) ≤ a1 then
  (F_X9_readUnit_p86 rec) M5 a0
  else
  bnd (sI M5 1004 a0 ((gI M5 1004 a0) + (1 : Int32))) fun M7 =>
  cl (rec 3 M7 a0 (a1 + (1 : Int32))) fun M8 _ =>
  (F_X9_readUnit_p90 rec) M8
  else
  cl (F_X9_seen M3 a0) fun M10 r11 =>
  cl (F_J0_indexOf_0f7a4 M10 2 ((r11.toUInt32 % 65536).toInt32)) fun M12 r13 =>
  cl (F_X9_emit M12 a0 ((-1 : Int32) - r13)) fun M14 _ =>
  bnd (sI M14 1004 a0 ((gI M14 1004 a0) + (1 : Int32))) fun M16 =>
  (F_X9_readUnit_p90 rec) M16
  else
  cl (F_X9_readNumber M1 a0) fun M17 _ =>
  (F_X9_readUnit_p90 rec) M17
def P_X9_readBracket (n : Nat) : MP := (RX9, cX9_readBracket, 3, none, 20 + 2 * n, 500 + 60 * n)
def F_X9_readBracket_p55 (rec : Nat → Mem → Nat → Int32 → Option (Mem × Unit)) (M : Mem) : Option (Mem × Unit) :=
  some (M, ())
def F_X9_readBracket_p29 (rec : Nat → Mem → Nat → Int32 → Option (Mem × Unit)) (M : Mem) (x0 : Nat) : Option (Mem × Unit) :=
  cl (F_X9_isAt M x0 5) fun M1 r2 =>
  if r2 = 0 then
  cl (F_X9_fail M1 x0) fun M3 _ =>
  (F_X9_readBracket_p55 rec) M3
  else
  bnd (sI M1 1004 x0 ((gI M1 1004 x0) + (1 : Int32))) fun M5 =>
  (F_X9_readBracket_p55 rec) M5
def B_X9_readBracket (rec : Nat → Mem → Nat → Int32 → Option (Mem × Unit)) (M : Mem) (a0 : Nat) (a1 : Int32) : Option (Mem × Unit) :=
  cl (rec 0 M a0 a1) fun M1 _ =>
  cl (F_X9_isAt M1 a0 4) fun M3 r4 =>
  if r4 = 0 then
  (F_X9_readBracket_p29 rec) M3 a0
  else
  cl (F_X9_takeOperator M3 a0) fun M5 r6 =>
  cl (rec 0 M5 a0 a1) fun M7 _ =>
  cl (F_X9_emit M7 a0 r6) fun M9 _ =>
  (F_X9_readBracket_p29 rec) M9 a0
def F_X9_g : Nat → Nat → Mem → Nat → Int32 → Option (Mem × Unit)
  | 0, _, _, _, _ => none
  | n + 1, t, M, x, d => if t = 0 then B_X9_readSum (F_X9_g n) M x d else if t = 1 then B_X9_readTerm (F_X9_g n) M x d else if t = 2 then B_X9_readUnit (F_X9_g n) M x d else B_X9_readBracket (F_X9_g n) M x d
abbrev P_X9_compile : MP := (RX9, cX9_compile, 1, (some .int), 81, 2323)
def F_X9_compile_p35 (M : Mem) (x0 : Nat) : Option (Mem × Int32) :=
  some (M, gI M 1005 x0)
def F_X9_compile (M : Mem) (a0 : Nat) : Option (Mem × Int32) :=
  bnd (sI M 1004 a0 (0 : Int32)) fun M1 =>
  bnd (sI M1 1003 a0 (0 : Int32)) fun M2 =>
  bnd (sI M2 1005 a0 (-1 : Int32)) fun M3 =>
  cl (F_X9_g FD 0 M3 a0 (0 : Int32)) fun M4 _ =>
  if (gI M4 1002 a0) ≤ (gI M4 1004 a0) then
  F_X9_compile_p35 M4 a0
  else
  cl (F_X9_fail M4 a0) fun M6 _ =>
  F_X9_compile_p35 M6 a0
abbrev P_X11_rule : MP := (RX11, cX11_rule, 4, (some .int), 82, 2343)
def F_X11_rule_p59 (M : Mem) (x0 : Nat) : Option (Mem × Int32) :=
  cl (F_X11_refuse M x0 (-6 : Int32)) fun M1 r2 =>
  some (M1, r2)
def F_X11_rule_p16 (M : Mem) (x0 : Nat) (x1 : Int32) (x2 : Int32) : Option (Mem × Int32) :=
  lr (gR M 1205 x0) (gK M) 3 fun b1 =>
  if ((gI M 206 b1) / (24 : Int32)) ≤ x2 then
  if (333 : Int32) < x2 then
  F_X11_rule_p59 M x0
  else
  lr (gR M 1202 x0) (gK M) 8 fun b2 =>
  lr (gR M 700 b2) (gK M) 1 fun b3 =>
  cl (F_Jx4a65c_size_8abf5 M b3) fun M4 r5 =>
  if r5 < (30 : Int32) then
  lr (gR M4 1203 x0) (gK M4) 11 fun b6 =>
  cl (F_X9_compile M4 b6) fun M7 r8 =>
  lr (gR M7 1203 x0) (gK M7) 11 fun b9 =>
  bnd (sI M7 1002 b9 (0 : Int32)) fun M10 =>
  if r8 = (-1 : Int32) then
  lr (gR M10 1202 x0) (gK M10) 8 fun b11 =>
  lr (gR M10 700 b11) (gK M10) 1 fun b12 =>
  bnd (gH M10) fun b13 => bnd (nO M10 7 4) fun M14 =>
  lr (gR M14 1203 x0) (gK M14) 11 fun b15 =>
  lr (gR M14 1001 b15) (gK M14) 20 fun b16 =>
  bnd (gH M14) fun b17 => bnd (nCl M14 b16) fun M18 =>
  lr (gR M18 1203 x0) (gK M18) 11 fun b19 =>
  cl (F_X5_init M18 b13 x1 x2 b17 (gI M18 1003 b19)) fun M20 _ =>
  cl (F_Jx4a65c_add_9ea2d M20 b12 b13) fun M22 r23 =>
  lr (gR M22 1202 x0) (gK M22) 8 fun b24 =>
  lr (gR M22 700 b24) (gK M22) 1 fun b25 =>
  cl (F_Jx4a65c_size_8abf5 M22 b25) fun M26 r27 =>
  some (M26, r27)
  else
  some (M10, (-20 : Int32) - r8)
  else
  F_X11_rule_p59 M4 x0
  else
  cl (F_X11_refuse M x0 (-4 : Int32)) fun M28 r29 =>
  some (M28, r29)
def F_X11_rule (M : Mem) (a0 : Nat) (a1 : Int32) (a2 : Int32) : Option (Mem × Int32) :=
  if a1 = 0 then
  F_X11_rule_p16 M a0 a1 a2
  else
  if a1 = (1 : Int32) then
  F_X11_rule_p16 M a0 a1 a2
  else
  cl (F_X11_refuse M a0 (-2 : Int32)) fun M1 r2 =>
  some (M1, r2)
abbrev P_X11_share : MP := (RX11, cX11_share, 4, (some .int), 1, 22)
def F_X11_share (M : Mem) (a0 : Nat) (a1 : Int32) : Option (Mem × Int32) :=
  cl (F_X11_beyond M a1 (0 : Int32) (999 : Int32)) fun M1 r2 =>
  if r2 = 0 then
  lr (gR M1 1205 a0) (gK M1) 3 fun b3 =>
  bnd (gI M1 205 b3) fun v4 =>
  lr (gR M1 1205 a0) (gK M1) 3 fun b5 =>
  bnd (sI M1 205 b5 a1) fun M6 =>
  some (M6, v4)
  else
  cl (F_X11_refuse M1 a0 r2) fun M7 r8 =>
  some (M7, r8)
abbrev P_X11_soil : MP := (RX11, cX11_soil, 6, (some .int), 4, 85)
def F_X11_soil_p29 (M : Mem) (x0 : Nat) : Option (Mem × Int32) :=
  cl (F_X11_refuse M x0 (-4 : Int32)) fun M1 r2 =>
  some (M1, r2)
def F_X11_soil_p49 (M : Mem) (x0 : Nat) : Option (Mem × Int32) :=
  cl (F_X11_refuse M x0 (-6 : Int32)) fun M1 r2 =>
  some (M1, r2)
def F_X11_soil (M : Mem) (a0 : Nat) (a1 : Int32) (a2 : Int32) (a3 : Int32) : Option (Mem × Int32) :=
  lr (gR M 1205 a0) (gK M) 3 fun b1 =>
  cl (F_X1_find M b1 a1) fun M2 r3 =>
  nul r3 (
  cl (F_X11_refuse M2 a0 (-1 : Int32)) fun M5 r6 =>
  some (M5, r6)) fun b4 =>
  if a2 < 0 then
  F_X11_soil_p29 M2 a0
  else
  if 0 ≤ a3 then
  if (999 : Int32) < a2 then
  F_X11_soil_p49 M2 a0
  else
  if a3 ≤ (100 : Int32) then
  grd (gK M2 b4 = 2) <|
  bnd (gI M2 107 b4) fun v7 =>
  bnd (sI M2 107 b4 a2) fun M8 =>
  bnd (sI M8 108 b4 a3) fun M9 =>
  some (M9, v7)
  else
  F_X11_soil_p49 M2 a0
  else
  F_X11_soil_p29 M2 a0
abbrev P_X11_sun : MP := (RX11, cX11_sun, 4, (some .int), 1, 23)
def F_X11_sun_p42 (M : Mem) (y0 : Int32) : Option (Mem × Int32) :=
  some (M, y0)
def F_X11_sun (M : Mem) (a0 : Nat) (a1 : Int32) (a2 : Int32) : Option (Mem × Int32) :=
  cl (F_X11_beyond M a1 (0 : Int32) (23 : Int32)) fun M1 r2 =>
  cl (F_X11_beyond M1 a2 (0 : Int32) (99999 : Int32)) fun M3 r4 =>
  cl (F_X11_firstOf M3 r2 r4) fun M5 r6 =>
  if r6 = 0 then
  lr (gR M5 1200 a0) (gK M5) 12 fun b7 =>
  lr (gR M5 1103 b7) (gK M5) 20 fun b8 =>
  cl (F_X11_replace M5 b8 a1 a2) fun M9 r10 =>
  F_X11_sun_p42 M9 r10
  else
  cl (F_X11_refuse M5 a0 r6) fun M11 r12 =>
  F_X11_sun_p42 M11 r12
abbrev P_X11_takenFrom : MP := (RX11, cX11_takenFrom, 7, (some .long), 7, 175)
def F_X11_takenFrom_p27 (M : Mem) (x0 : Nat) : Option (Mem × Int64) :=
  cl (F_X11_refuseLong M x0 (-1 : Int32)) fun M1 r2 =>
  some (M1, r2)
def F_X11_takenFrom (M : Mem) (a0 : Nat) (a1 : Int32) (a2 : Int32) (a3 : Int32) : Option (Mem × Int64) :=
  lr (gR M 1205 a0) (gK M) 3 fun b1 =>
  cl (F_X1_find M b1 a1) fun M2 r3 =>
  nul r3 (
  F_X11_takenFrom_p27 M2 a0) fun b4 =>
  lr (gR M2 1205 a0) (gK M2) 3 fun b5 =>
  cl (F_X1_find M2 b5 a2) fun M6 r7 =>
  nul r7 (
  F_X11_takenFrom_p27 M6 a0) fun b8 =>
  if a1 = a2 then
  F_X11_takenFrom_p27 M6 a0
  else
  cl (F_X11_beyond M6 a3 (1 : Int32) (500 : Int32)) fun M9 r10 =>
  if r10 = 0 then
  cl (F_X11_givenInMind M9 a0 a1 (0 : Int32) a3) fun M11 r12 =>
  cl (F_X11_givenInMind M11 a0 a1 ((1 : Int32) <<< (a2 &&& 31)) a3) fun M13 r14 =>
  some (M13, r14 - r12)
  else
  cl (F_X11_refuseLong M9 a0 r10) fun M15 r16 =>
  some (M15, r16)
abbrev P_X11_tank : MP := (RX11, cX11_tank, 4, (some .int), 1, 21)
def F_X11_tank_p9 (M : Mem) (x0 : Nat) : Option (Mem × Int32) :=
  cl (F_X11_refuse M x0 (-4 : Int32)) fun M1 r2 =>
  some (M1, r2)
def F_X11_tank_p29 (M : Mem) (x0 : Nat) : Option (Mem × Int32) :=
  cl (F_X11_refuse M x0 (-6 : Int32)) fun M1 r2 =>
  some (M1, r2)
def F_X11_tank (M : Mem) (a0 : Nat) (a1 : Int32) (a2 : Int32) : Option (Mem × Int32) :=
  if a1 < 0 then
  F_X11_tank_p9 M a0
  else
  if (1 : Int32) ≤ a2 then
  if (9 : Int32) < a1 then
  F_X11_tank_p29 M a0
  else
  if a2 ≤ (9999 : Int32) then
  lr (gR M 1204 a0) (gK M) 10 fun b1 =>
  bnd (gI M 900 b1) fun v2 =>
  lr (gR M 1204 a0) (gK M) 10 fun b3 =>
  bnd (sI M 900 b3 a1) fun M4 =>
  lr (gR M4 1204 a0) (gK M4) 10 fun b5 =>
  bnd (sI M4 901 b5 a2) fun M6 =>
  some (M6, v2)
  else
  F_X11_tank_p29 M a0
  else
  F_X11_tank_p9 M a0
abbrev P_X1_heatInAll : MP := (RX1, cX1_heatInAll, 8, (some .long), 3, 64)
def F_X1_heatInAll_p77 (k37 : Mem → Nat → Int32 → Int64 → Int32 → Nat → Int32 → Option (Mem × Int64)) (M : Mem) (x0 : Nat) (x1 : Int32) (x4 : Int32) (x5 : Nat) (x6 : Int32) (y0 : Int64) (y1 : Int64) : Option (Mem × Int64) :=
  bnd (y0 + y1) fun v1 =>
  bnd (x6 + 1) fun v2 =>
  k37 M x0 x1 v1 x4 x5 v2
def F_X1_heatInAll_p37 (k85 : Mem → Nat → Int32 → Int64 → Int32 → Option (Mem × Int64)) : Nat → Mem → Nat → Int32 → Int64 → Int32 → Nat → Int32 → Option (Mem × Int64)
  | 0, _, _, _, _, _, _, _ => none
  | n + 1, M, x0, x1, x2, x4, x5, x6 =>
    cl (F_Jx4a65c_size_8abf5 M x5) fun M1 r2 =>
    if r2 ≤ x6 then
    k85 M1 x0 x1 x2 x4
    else
    cl (F_Jx4a65c_get_915e3 M1 x5 x6) fun M3 r4 =>
    lr r4 (gK M3) 6 fun b5 =>
    if x1 = 0 then
    (F_X1_heatInAll_p77 (F_X1_heatInAll_p37 k85 n)) M3 x0 x1 x4 x5 x6 x2 (gJ M3 502 b5)
    else
    (F_X1_heatInAll_p77 (F_X1_heatInAll_p37 k85 n)) M3 x0 x1 x4 x5 x6 x2 (gJ M3 501 b5)
def F_X1_heatInAll_p85 (k5 : Mem → Nat → Int32 → Int64 → Int32 → Option (Mem × Int64)) (M : Mem) (x0 : Nat) (x1 : Int32) (x2 : Int64) (x4 : Int32) : Option (Mem × Int64) :=
  bnd (x4 + 1) fun v1 =>
  k5 M x0 x1 x2 v1
def F_X1_heatInAll_p5 (k91 : Mem → Int64 → Option (Mem × Int64)) : Nat → Mem → Nat → Int32 → Int64 → Int32 → Option (Mem × Int64)
  | 0, _, _, _, _, _ => none
  | n + 1, M, x0, x1, x2, x4 =>
    lr (gR M 203 x0) (gK M) 1 fun b1 =>
    cl (F_Jx4a65c_size_8abf5 M b1) fun M2 r3 =>
    if r3 ≤ x4 then
    k91 M2 x2
    else
    lr (gR M2 203 x0) (gK M2) 1 fun b4 =>
    cl (F_Jx4a65c_get_915e3 M2 b4 x4) fun M5 r6 =>
    lr r6 (gK M5) 2 fun b7 =>
    lr (gR M5 104 b7) (gK M5) 1 fun b8 =>
    (F_X1_heatInAll_p37 (F_X1_heatInAll_p85 (F_X1_heatInAll_p5 k91 n)) FU) M5 x0 x1 x2 x4 b8 (0 : Int32)
def F_X1_heatInAll_p91 (M : Mem) (x2 : Int64) : Option (Mem × Int64) :=
  some (M, x2)
def F_X1_heatInAll (M : Mem) (a0 : Nat) (a1 : Int32) : Option (Mem × Int64) :=
  (F_X1_heatInAll_p5 F_X1_heatInAll_p91 FU) M a0 a1 (0 : Int64) (0 : Int32)
abbrev P_X11_told : MP := (RX11, cX11_told, 2, (some .long), 4, 91)
def F_X11_told_p53 (M : Mem) (y0 : Nat) (y1 : Int32) : Option (Mem × Int64) :=
  cl (F_X1_heatInAll M y0 y1) fun M1 r2 =>
  some (M1, r2)
def F_X11_told_p38 (M : Mem) (x0 : Nat) (x1 : Int32) : Option (Mem × Int64) :=
  lr (gR M 1205 x0) (gK M) 3 fun b1 =>
  if x1 = (10 : Int32) then
  F_X11_told_p53 M b1 (1 : Int32)
  else
  F_X11_told_p53 M b1 (0 : Int32)
def F_X11_told_p26 (M : Mem) (x0 : Nat) (x1 : Int32) : Option (Mem × Int64) :=
  if x1 = (9 : Int32) then
  F_X11_told_p38 M x0 x1
  else
  if x1 = (10 : Int32) then
  F_X11_told_p38 M x0 x1
  else
  cl (F_X11_refuseLong M x0 (-2 : Int32)) fun M1 r2 =>
  some (M1, r2)
def F_X11_told (M : Mem) (a0 : Nat) (a1 : Int32) : Option (Mem × Int64) :=
  if a1 < 0 then
  F_X11_told_p26 M a0 a1
  else
  lr (gR M 1205 a0) (gK M) 3 fun b1 =>
  lr (gR M 204 b1) (gK M) 21 fun b2 =>
  if (Int32.ofNat (gN M b2)) ≤ a1 then
  F_X11_told_p26 M a0 a1
  else
  lr (gR M 1205 a0) (gK M) 3 fun b3 =>
  lr (gR M 204 b3) (gK M) 21 fun b4 =>
  grd (inb a1 (gN M b4)) <|
  some (M, gB M b4 (ixn a1))
abbrev P_X11_untable : MP := (RX11, cX11_untable, 2, (some .int), 0, 0)
def F_X11_untable (M : Mem) (a0 : Nat) : Option (Mem × Int32) :=
  lr (gR M 1201 a0) (gK M) 9 fun b1 =>
  bnd (gI M 802 b1) fun v2 =>
  lr (gR M 1201 a0) (gK M) 9 fun b3 =>
  bnd (sI M 802 b3 (0 : Int32)) fun M4 =>
  some (M4, v2)
abbrev P_X11_warmth : MP := (RX11, cX11_warmth, 4, (some .long), 5, 108)
def F_X11_warmth_p23 (M : Mem) (y0 : Int64) : Option (Mem × Int64) :=
  some (M, y0)
def F_X11_warmth (M : Mem) (a0 : Nat) (a1 : Int32) (a2 : Int32) : Option (Mem × Int64) :=
  cl (F_X11_findRing M a0 a1 a2) fun M1 r2 =>
  nul r2 (
  cl (F_X11_refuseLong M1 a0 (-1 : Int32)) fun M4 r5 =>
  F_X11_warmth_p23 M4 r5) fun b3 =>
  grd (gK M1 b3 = 6) <|
  F_X11_warmth_p23 M1 (gJ M1 503 b3)
abbrev P_X11_wrong : MP := (RX11, cX11_wrong, 2, (some .long), 3, 64)
def F_X11_wrong_p37 (M : Mem) (y0 : Int64) : Option (Mem × Int64) :=
  some (M, y0)
def F_X11_wrong_p15 (M : Mem) (x0 : Nat) : Option (Mem × Int64) :=
  cl (F_X11_refuseLong M x0 (-1 : Int32)) fun M1 r2 =>
  F_X11_wrong_p37 M1 r2
def F_X11_wrong (M : Mem) (a0 : Nat) (a1 : Int32) : Option (Mem × Int64) :=
  if a1 < 0 then
  F_X11_wrong_p15 M a0
  else
  lr (gR M 1207 a0) (gK M) 1 fun b1 =>
  cl (F_Jx4a65c_size_8abf5 M b1) fun M2 r3 =>
  if a1 < r3 then
  lr (gR M2 1207 a0) (gK M2) 1 fun b4 =>
  cl (F_Jx4a65c_get_915e3 M2 b4 a1) fun M5 r6 =>
  lr r6 (gK M5) 5 fun b7 =>
  F_X11_wrong_p37 M5 (gJ M5 402 b7)
  else
  F_X11_wrong_p15 M2 a0
abbrev P_X12_bars : MP := (RX12, cX12_bars, 3, (some .int), 0, 0)
def F_X12_bars_p21 (M : Mem) (y0 : Int32) : Option (Mem × Int32) :=
  some (M, y0)
def F_X12_bars (M : Mem) (a0 : Nat) (a1 : Int32) (a2 : Int32) : Option (Mem × Int32) :=
  if (1 : Int32) ≤ a1 then
  if a1 ≤ a2 then
  F_X12_bars_p21 M (0 : Int32)
  else
  F_X12_bars_p21 M (-6 : Int32)
  else
  F_X12_bars_p21 M (-4 : Int32)
abbrev P_X12_liftAt : MP := (RX12, cX12_liftAt, 8, (some .long), 0, 0)
def F_X12_liftAt_p37 (k82 : Mem → Nat → Int64 → Int32 → Int64 → Int64 → Option (Mem × Int64)) (k124 : Mem → Nat → Option (Mem × Int64)) : Nat → Mem → Nat → Int64 → Int32 → Option (Mem × Int64)
  | 0, _, _, _, _ => none
  | n + 1, M, x0, x1, x3 =>
    if (gI M 1322 x0) ≤ (x3 + (1 : Int32)) then
    k124 M x0
    else
    lr (gR M 1323 x0) (gK M) 20 fun b1 =>
    grd (inb x3 (gN M b1)) <|
    bnd ((1000 : Int64) * ((gA M b1 (ixn x3)).toInt64)) fun v2 =>
    lr (gR M 1323 x0) (gK M) 20 fun b3 =>
    grd (inb (x3 + (1 : Int32)) (gN M b3)) <|
    bnd ((1000 : Int64) * ((gA M b3 (ixn (x3 + (1 : Int32)))).toInt64)) fun v4 =>
    if 0 ≤ (lg_cmp x1 v4) then
    bnd (x3 + 1) fun v5 =>
    (F_X12_liftAt_p37 k82 k124 n) M x0 x1 v5
    else
    k82 M x0 x1 x3 v2 v4
def F_X12_liftAt_p82 (M : Mem) (x0 : Nat) (x1 : Int64) (x3 : Int32) (x4 : Int64) (x6 : Int64) : Option (Mem × Int64) :=
  lr (gR M 1324 x0) (gK M) 20 fun b1 =>
  grd (inb x3 (gN M b1)) <|
  lr (gR M 1324 x0) (gK M) 20 fun b2 =>
  grd (inb (x3 + (1 : Int32)) (gN M b2)) <|
  lr (gR M 1324 x0) (gK M) 20 fun b3 =>
  grd (inb x3 (gN M b3)) <|
  grd (¬ (x6 - x4) = 0) <|
  some (M, ((gA M b1 (ixn x3)).toInt64) + (((((gA M b2 (ixn (x3 + (1 : Int32)))) - (gA M b3 (ixn x3))).toInt64) * (x1 - x4)) / (x6 - x4)))
def F_X12_liftAt_p124 (M : Mem) (x0 : Nat) : Option (Mem × Int64) :=
  lr (gR M 1324 x0) (gK M) 20 fun b1 =>
  grd (inb ((gI M 1322 x0) - (1 : Int32)) (gN M b1)) <|
  some (M, (gA M b1 (ixn ((gI M 1322 x0) - (1 : Int32)))).toInt64)
def F_X12_liftAt (M : Mem) (a0 : Nat) (a1 : Int64) : Option (Mem × Int64) :=
  if (gI M 1322 a0) = 0 then
  some (M, (100 : Int64))
  else
  lr (gR M 1323 a0) (gK M) 20 fun b1 =>
  grd (inb (0 : Int32) (gN M b1)) <|
  if 0 < (lg_cmp a1 ((1000 : Int64) * ((gA M b1 (ixn (0 : Int32))).toInt64))) then
  (F_X12_liftAt_p37 F_X12_liftAt_p82 F_X12_liftAt_p124 FU) M a0 a1 (0 : Int32)
  else
  lr (gR M 1324 a0) (gK M) 20 fun b2 =>
  grd (inb (0 : Int32) (gN M b2)) <|
  some (M, (gA M b2 (ixn (0 : Int32))).toInt64)
abbrev P_X12_cut : MP := (RX12, cX12_cut, 6, (some .long), 0, 0)
def F_X12_cut_p23 (M : Mem) (y0 : Int64) : Option (Mem × Int64) :=
  some (M, y0)
def F_X12_cut (M : Mem) (a0 : Int64) (a1 : Int64) (a2 : Int64) : Option (Mem × Int64) :=
  if 0 ≤ (lg_cmp a0 a1) then
  if (lg_cmp a0 a2) ≤ 0 then
  F_X12_cut_p23 M a0
  else
  F_X12_cut_p23 M a2
  else
  F_X12_cut_p23 M a1
abbrev P_X12_isJoined : MP := (RX12, cX12_isJoined, 3, (some .boolean), 0, 0)
def F_X12_isJoined_p24 (M : Mem) (y0 : Int32) : Option (Mem × Int32) :=
  grd (y0 = 0 ∨ y0 = 1) <| some (M, y0)
def F_X12_isJoined_p23 (M : Mem) : Option (Mem × Int32) :=
  F_X12_isJoined_p24 M (0 : Int32)
def F_X12_isJoined (M : Mem) (a0 : Nat) (a1 : Int32) (a2 : Int32) : Option (Mem × Int32) :=
  lr (gR M 1320 a0) (gK M) 20 fun b1 =>
  grd (inb a1 (gN M b1)) <|
  if (gA M b1 (ixn a1)) < 0 then
  F_X12_isJoined_p23 M
  else
  lr (gR M 1320 a0) (gK M) 20 fun b2 =>
  grd (inb a1 (gN M b2)) <|
  if a2 < (gA M b2 (ixn a1)) then
  F_X12_isJoined_p23 M
  else
  F_X12_isJoined_p24 M (1 : Int32)
abbrev P_X12_needOf : MP := (RX12, cX12_needOf, 9, (some .long), 1, 22)
def F_X12_needOf_p110 (k26 : Mem → Nat → Int32 → Int64 → Int32 → Int32 → Int32 → Option (Mem × Int64)) (M : Mem) (x0 : Nat) (x1 : Int32) (x2 : Int64) (x4 : Int32) (x5 : Int32) (x6 : Int32) : Option (Mem × Int64) :=
  bnd (x6 + 1) fun v1 =>
  k26 M x0 x1 x2 x4 x5 v1
def F_X12_needOf_p108 (k26 : Mem → Nat → Int32 → Int64 → Int32 → Int32 → Int32 → Option (Mem × Int64)) (M : Mem) (x0 : Nat) (x1 : Int32) (x4 : Int32) (x5 : Int32) (x6 : Int32) (y0 : Int64) (y1 : Int64) : Option (Mem × Int64) :=
  bnd (y0 + y1) fun v1 =>
  (F_X12_needOf_p110 k26) M x0 x1 v1 x4 x5 x6
def F_X12_needOf_p73 (k26 : Mem → Nat → Int32 → Int64 → Int32 → Int32 → Int32 → Option (Mem × Int64)) (M : Mem) (x0 : Nat) (x1 : Int32) (x2 : Int64) (x4 : Int32) (x5 : Int32) (x6 : Int32) (y0 : Int64) (y1 : Int64) (y2 : Int32) : Option (Mem × Int64) :=
  bnd (y0 + (y1 * (y2.toInt64))) fun v1 =>
  lr (gR M 1319 x0) (gK M) 20 fun b2 =>
  grd (inb x6 (gN M b2)) <|
  if (((gA M b2 (ixn x6)) >>> ((x1 - x1 / (24 : Int32) * (24 : Int32)) &&& 31)) &&& (1 : Int32)) = (1 : Int32) then
  (F_X12_needOf_p108 k26) M x0 x1 x4 x5 x6 x2 v1
  else
  (F_X12_needOf_p108 k26) M x0 x1 x4 x5 x6 x2 (v1 / (2 : Int64))
def F_X12_needOf_p26 (k116 : Mem → Int64 → Option (Mem × Int64)) : Nat → Mem → Nat → Int32 → Int64 → Int32 → Int32 → Int32 → Option (Mem × Int64)
  | 0, _, _, _, _, _, _, _ => none
  | n + 1, M, x0, x1, x2, x4, x5, x6 =>
    if (gI M 1316 x0) ≤ x6 then
    k116 M x2
    else
    cl (F_X12_isJoined M x0 x6 x4) fun M1 r2 =>
    if r2 = 0 then
    (F_X12_needOf_p110 (F_X12_needOf_p26 k116 n)) M1 x0 x1 x2 x4 x5 x6
    else
    lr (gR M1 1317 x0) (gK M1) 20 fun b3 =>
    grd (inb x6 (gN M1 b3)) <|
    lr (gR M1 1318 x0) (gK M1) 20 fun b4 =>
    grd (inb x6 (gN M1 b4)) <|
    if 0 ≤ x5 then
    (F_X12_needOf_p73 (F_X12_needOf_p26 k116 n)) M1 x0 x1 x2 x4 x5 x6 ((gA M1 b3 (ixn x6)).toInt64) ((gA M1 b4 (ixn x6)).toInt64) x5
    else
    (F_X12_needOf_p73 (F_X12_needOf_p26 k116 n)) M1 x0 x1 x2 x4 x5 x6 ((gA M1 b3 (ixn x6)).toInt64) ((gA M1 b4 (ixn x6)).toInt64) (0 : Int32)
def F_X12_needOf_p116 (M : Mem) (x2 : Int64) : Option (Mem × Int64) :=
  some (M, x2)
def F_X12_needOf (M : Mem) (a0 : Nat) (a1 : Int32) : Option (Mem × Int64) :=
  bnd (a1 / (24 : Int32)) fun v1 =>
  lr (gR M 1321 a0) (gK M) 20 fun b2 =>
  grd (inb (v1 - v1 / (12 : Int32) * (12 : Int32)) (gN M b2)) <|
  bnd ((15 : Int32) - (gA M b2 (ixn (v1 - v1 / (12 : Int32) * (12 : Int32))))) fun v3 =>
  (F_X12_needOf_p26 F_X12_needOf_p116 FU) M a0 a1 (0 : Int64) v1 v3 (0 : Int32)
abbrev P_X12_holdOf : MP := (RX12, cX12_holdOf, 3, (some .int), 0, 0)
def F_X12_holdOf (M : Mem) (a0 : Nat) (a1 : Int32) (a2 : Int32) : Option (Mem × Int32) :=
  lr (gR M 1306 a0) (gK M) 20 fun b1 =>
  grd (inb a1 (gN M b1)) <|
  lr (gR M 1307 a0) (gK M) 20 fun b2 =>
  grd (inb a1 (gN M b2)) <|
  some (M, (gA M b1 (ixn a1)) + (a2 * (gA M b2 (ixn a1))))
abbrev P_X12_warmthOf : MP := (RX12, cX12_warmthOf, 3, (some .long), 1, 22)
def F_X12_warmthOf (M : Mem) (a0 : Nat) (a1 : Int32) (a2 : Int32) : Option (Mem × Int64) :=
  lr (gR M 1313 a0) (gK M) 21 fun b1 =>
  grd (inb (((8 : Int32) * a1) + a2) (gN M b1)) <|
  cl (F_X12_holdOf M a0 a1 a2) fun M2 r3 =>
  grd (¬ (r3.toInt64) = 0) <|
  some (M2, (gB M b1 (ixn (((8 : Int32) * a1) + a2))) / (r3.toInt64))
abbrev P_X12_two : MP := (RX12, cX12_two, 5, (some .long), 0, 0)
def F_X12_two_p65 (M : Mem) (y0 : Int64) : Option (Mem × Int64) :=
  some (M, y0)
def F_X12_two_p77 (M : Mem) (y0 : Int64) : Option (Mem × Int64) :=
  some (M, y0)
def F_X12_two_p89 (M : Mem) (y0 : Int64) : Option (Mem × Int64) :=
  some (M, y0)
def F_X12_two_p101 (M : Mem) (y0 : Int64) : Option (Mem × Int64) :=
  some (M, y0)
def F_X12_two (M : Mem) (a0 : Int32) (a1 : Int64) (a2 : Int64) : Option (Mem × Int64) :=
  swi a0 20 [some (M, a1 + a2),
  some (M, a1 - a2),
  some (M, a1 * a2),
  if (lg_cmp a2 (0 : Int64)) = 0 then
  F_X12_two_p65 M (0 : Int64)
  else
  grd (¬ a2 = 0) <|
  F_X12_two_p65 M (a1 / a2),
  if 0 ≤ (lg_cmp a1 a2) then
  F_X12_two_p77 M (0 : Int64)
  else
  F_X12_two_p77 M (1 : Int64),
  if (lg_cmp a1 a2) = 0 then
  F_X12_two_p89 M (1 : Int64)
  else
  F_X12_two_p89 M (0 : Int64)] (
  if (lg_cmp a1 a2) ≤ 0 then
  F_X12_two_p101 M (0 : Int64)
  else
  F_X12_two_p101 M (1 : Int64))
abbrev P_X12_worth : MP := (RX12, cX12_worth, 4, (some .long), 1, 25)
def F_X12_worth_p136 (k7 : Mem → Nat → Int32 → Int32 → Int32 → Option (Mem × Int64)) (M : Mem) (x0 : Nat) (x1 : Int32) (x2 : Int32) (x3 : Int32) : Option (Mem × Int64) :=
  bnd (x3 + 1) fun v1 =>
  k7 M x0 x1 x2 v1
def F_X12_worth_p86 (k7 : Mem → Nat → Int32 → Int32 → Int32 → Option (Mem × Int64)) (M : Mem) (x0 : Nat) (x1 : Int32) (x2 : Int32) (x3 : Int32) (y0 : Nat) (y1 : Int32) (y2 : Int64) : Option (Mem × Int64) :=
  grd (inb y1 (gN M y0)) <| bnd (sB M y0 (ixn y1) y2) fun M1 =>
  bnd (x2 + 1) fun v2 =>
  (F_X12_worth_p136 k7) M1 x0 x1 v2 x3
def F_X12_worth_p45 (k7 : Mem → Nat → Int32 → Int32 → Int32 → Option (Mem × Int64)) (M : Mem) (x0 : Nat) (x1 : Int32) (x2 : Int32) (x3 : Int32) : Option (Mem × Int64) :=
  lr (gR M 1345 x0) (gK M) 21 fun b1 =>
  lr (gR M 1333 x0) (gK M) 20 fun b2 =>
  grd (inb x3 (gN M b2)) <|
  if (9 : Int32) ≤ (gA M b2 (ixn x3)) then
  lr (gR M 1333 x0) (gK M) 20 fun b3 =>
  grd (inb x3 (gN M b3)) <|
  (F_X12_worth_p86 k7) M x0 x1 x2 x3 b1 x2 (((gA M b3 (ixn x3)) - (1000 : Int32)).toInt64)
  else
  lr (gR M 1344 x0) (gK M) 21 fun b4 =>
  lr (gR M 1333 x0) (gK M) 20 fun b5 =>
  grd (inb x3 (gN M b5)) <|
  grd (inb (gA M b5 (ixn x3)) (gN M b4)) <|
  (F_X12_worth_p86 k7) M x0 x1 x2 x3 b1 x2 (gB M b4 (ixn (gA M b5 (ixn x3))))
def F_X12_worth_p7 (k142 : Mem → Nat → Option (Mem × Int64)) : Nat → Mem → Nat → Int32 → Int32 → Int32 → Option (Mem × Int64)
  | 0, _, _, _, _, _ => none
  | n + 1, M, x0, x1, x2, x3 =>
    lr (gR M 1332 x0) (gK M) 20 fun b1 =>
    grd (inb x1 (gN M b1)) <|
    if (((62 : Int32) * x1) + (gA M b1 (ixn x1))) ≤ x3 then
    k142 M x0
    else
    lr (gR M 1333 x0) (gK M) 20 fun b2 =>
    grd (inb x3 (gN M b2)) <|
    if (1000 : Int32) ≤ (gA M b2 (ixn x3)) then
    (F_X12_worth_p45 (F_X12_worth_p7 k142 n)) M x0 x1 x2 x3
    else
    lr (gR M 1333 x0) (gK M) 20 fun b3 =>
    grd (inb x3 (gN M b3)) <|
    if (9 : Int32) ≤ (gA M b3 (ixn x3)) then
    bnd (x2 + (-1)) fun v4 =>
    lr (gR M 1345 x0) (gK M) 21 fun b5 =>
    lr (gR M 1333 x0) (gK M) 20 fun b6 =>
    grd (inb x3 (gN M b6)) <|
    lr (gR M 1345 x0) (gK M) 21 fun b7 =>
    grd (inb (v4 - (1 : Int32)) (gN M b7)) <|
    lr (gR M 1345 x0) (gK M) 21 fun b8 =>
    grd (inb v4 (gN M b8)) <|
    cl (F_X12_two M (gA M b6 (ixn x3)) (gB M b7 (ixn (v4 - (1 : Int32)))) (gB M b8 (ixn v4))) fun M9 r10 =>
    cl (F_X12_cut M9 r10 (-1000000000 : Int64) (1000000000 : Int64)) fun M11 r12 =>
    grd (inb (v4 - (1 : Int32)) (gN M11 b5)) <| bnd (sB M11 b5 (ixn (v4 - (1 : Int32))) r12) fun M13 =>
    (F_X12_worth_p136 (F_X12_worth_p7 k142 n)) M13 x0 x1 v4 x3
    else
    (F_X12_worth_p45 (F_X12_worth_p7 k142 n)) M x0 x1 x2 x3
def F_X12_worth_p142 (M : Mem) (x0 : Nat) : Option (Mem × Int64) :=
  lr (gR M 1345 x0) (gK M) 21 fun b1 =>
  grd (inb (0 : Int32) (gN M b1)) <|
  some (M, gB M b1 (ixn (0 : Int32)))
def F_X12_worth (M : Mem) (a0 : Nat) (a1 : Int32) : Option (Mem × Int64) :=
  bnd ((62 : Int32) * a1) fun v1 =>
  (F_X12_worth_p7 F_X12_worth_p142 FU) M a0 a1 (0 : Int32) v1
abbrev P_X12_mayOf : MP := (RX12, cX12_mayOf, 7, (some .long), 2, 50)
def F_X12_mayOf_p86 (k14 : Mem → Nat → Int32 → Int32 → Int32 → Int32 → Int32 → Option (Mem × Int64)) (M : Mem) (x0 : Nat) (x1 : Int32) (x2 : Int32) (x3 : Int32) (x5 : Int32) (y0 : Int32) : Option (Mem × Int64) :=
  bnd (x5 + 1) fun v1 =>
  k14 M x0 x1 x2 x3 y0 v1
def F_X12_mayOf_p79 (k14 : Mem → Nat → Int32 → Int32 → Int32 → Int32 → Int32 → Option (Mem × Int64)) (M : Mem) (x0 : Nat) (x1 : Int32) (x2 : Int32) (x3 : Int32) (x5 : Int32) : Option (Mem × Int64) :=
  (F_X12_mayOf_p86 k14) M x0 x1 x2 x3 x5 x5
def F_X12_mayOf_p84 (k14 : Mem → Nat → Int32 → Int32 → Int32 → Int32 → Int32 → Option (Mem × Int64)) (M : Mem) (x0 : Nat) (x1 : Int32) (x2 : Int32) (x3 : Int32) (x4 : Int32) (x5 : Int32) : Option (Mem × Int64) :=
  (F_X12_mayOf_p86 k14) M x0 x1 x2 x3 x5 x4
def F_X12_mayOf_p50 (k14 : Mem → Nat → Int32 → Int32 → Int32 → Int32 → Int32 → Option (Mem × Int64)) (M : Mem) (x0 : Nat) (x1 : Int32) (x2 : Int32) (x3 : Int32) (x4 : Int32) (x5 : Int32) (y0 : Int32) : Option (Mem × Int64) :=
  if y0 = 0 then
  (F_X12_mayOf_p84 k14) M x0 x1 x2 x3 x4 x5
  else
  if x4 < 0 then
  (F_X12_mayOf_p79 k14) M x0 x1 x2 x3 x5
  else
  lr (gR M 1331 x0) (gK M) 20 fun b1 =>
  grd (inb x5 (gN M b1)) <|
  lr (gR M 1331 x0) (gK M) 20 fun b2 =>
  grd (inb x4 (gN M b2)) <|
  if (gA M b1 (ixn x5)) < (gA M b2 (ixn x4)) then
  (F_X12_mayOf_p84 k14) M x0 x1 x2 x3 x4 x5
  else
  (F_X12_mayOf_p79 k14) M x0 x1 x2 x3 x5
def F_X12_mayOf_p49 (k14 : Mem → Nat → Int32 → Int32 → Int32 → Int32 → Int32 → Option (Mem × Int64)) (M : Mem) (x0 : Nat) (x1 : Int32) (x2 : Int32) (x3 : Int32) (x4 : Int32) (x5 : Int32) : Option (Mem × Int64) :=
  (F_X12_mayOf_p50 k14) M x0 x1 x2 x3 x4 x5 (0 : Int32)
def F_X12_mayOf_p14 (k94 : Mem → Nat → Int32 → Int32 → Int32 → Option (Mem × Int64)) : Nat → Mem → Nat → Int32 → Int32 → Int32 → Int32 → Int32 → Option (Mem × Int64)
  | 0, _, _, _, _, _, _, _ => none
  | n + 1, M, x0, x1, x2, x3, x4, x5 =>
    if (gI M 1329 x0) ≤ x5 then
    k94 M x0 x1 x3 x4
    else
    lr (gR M 1330 x0) (gK M) 20 fun b1 =>
    grd (inb x5 (gN M b1)) <|
    if (gA M b1 (ixn x5)) = x2 then
    lr (gR M 1331 x0) (gK M) 20 fun b2 =>
    grd (inb x5 (gN M b2)) <|
    if x3 < (gA M b2 (ixn x5)) then
    (F_X12_mayOf_p49 (F_X12_mayOf_p14 k94 n)) M x0 x1 x2 x3 x4 x5
    else
    (F_X12_mayOf_p50 (F_X12_mayOf_p14 k94 n)) M x0 x1 x2 x3 x4 x5 (1 : Int32)
    else
    (F_X12_mayOf_p49 (F_X12_mayOf_p14 k94 n)) M x0 x1 x2 x3 x4 x5
def F_X12_mayOf_p238 (k274 : Mem → Nat → Int32 → Option (Mem × Int64)) : Nat → Mem → Nat → Int32 → Int32 → Option (Mem × Int64)
  | 0, _, _, _, _ => none
  | n + 1, M, x0, x4, x5 =>
    if (9 : Int32) ≤ x5 then
    k274 M x0 x4
    else
    lr (gR M 1344 x0) (gK M) 21 fun b1 =>
    lr (gR M 1344 x0) (gK M) 21 fun b2 =>
    grd (inb x5 (gN M b2)) <|
    cl (F_X12_cut M (gB M b2 (ixn x5)) (-1000000000 : Int64) (1000000000 : Int64)) fun M3 r4 =>
    grd (inb x5 (gN M3 b1)) <| bnd (sB M3 b1 (ixn x5) r4) fun M5 =>
    bnd (x5 + 1) fun v6 =>
    (F_X12_mayOf_p238 k274 n) M5 x0 x4 v6
def F_X12_mayOf_p274 (M : Mem) (x0 : Nat) (x4 : Int32) : Option (Mem × Int64) :=
  cl (F_X12_worth M x0 x4) fun M1 r2 =>
  cl (F_X12_cut M1 r2 (0 : Int64) (99999 : Int64)) fun M3 r4 =>
  some (M3, r4)
def F_X12_mayOf_p94 (M : Mem) (x0 : Nat) (x1 : Int32) (x3 : Int32) (x4 : Int32) : Option (Mem × Int64) :=
  if 0 ≤ x4 then
  lr (gR M 1344 x0) (gK M) 21 fun b1 =>
  grd (inb (0 : Int32) (gN M b1)) <| bnd (sB M b1 (ixn (0 : Int32)) (((gI M 1301 x0) - (gI M 1301 x0) / (24 : Int32) * (24 : Int32)).toInt64)) fun M2 =>
  lr (gR M2 1344 x0) (gK M2) 21 fun b3 =>
  grd (inb (1 : Int32) (gN M2 b3)) <| bnd (sB M2 b3 (ixn (1 : Int32)) (x3.toInt64)) fun M4 =>
  lr (gR M4 1344 x0) (gK M4) 21 fun b5 =>
  lr (gR M4 1325 x0) (gK M4) 20 fun b6 =>
  grd (inb ((gI M4 1301 x0) - (gI M4 1301 x0) / (24 : Int32) * (24 : Int32)) (gN M4 b6)) <|
  grd (inb (2 : Int32) (gN M4 b5)) <| bnd (sB M4 b5 (ixn (2 : Int32)) ((gA M4 b6 (ixn ((gI M4 1301 x0) - (gI M4 1301 x0) / (24 : Int32) * (24 : Int32)))).toInt64)) fun M7 =>
  lr (gR M7 1344 x0) (gK M7) 21 fun b8 =>
  lr (gR M7 1321 x0) (gK M7) 20 fun b9 =>
  grd (inb (x3 - x3 / (12 : Int32) * (12 : Int32)) (gN M7 b9)) <|
  grd (inb (3 : Int32) (gN M7 b8)) <| bnd (sB M7 b8 (ixn (3 : Int32)) ((gA M7 b9 (ixn (x3 - x3 / (12 : Int32) * (12 : Int32)))).toInt64)) fun M10 =>
  lr (gR M10 1344 x0) (gK M10) 21 fun b11 =>
  cl (F_X12_needOf M10 x0 (gI M10 1301 x0)) fun M12 r13 =>
  grd (inb (4 : Int32) (gN M12 b11)) <| bnd (sB M12 b11 (ixn (4 : Int32)) r13) fun M14 =>
  lr (gR M14 1344 x0) (gK M14) 21 fun b15 =>
  cl (F_X12_warmthOf M14 x0 x1 (0 : Int32)) fun M16 r17 =>
  grd (inb (5 : Int32) (gN M16 b15)) <| bnd (sB M16 b15 (ixn (5 : Int32)) (r17 / (1000 : Int64))) fun M18 =>
  lr (gR M18 1344 x0) (gK M18) 21 fun b19 =>
  lr (gR M18 1305 x0) (gK M18) 20 fun b20 =>
  grd (inb x1 (gN M18 b20)) <|
  cl (F_X12_warmthOf M18 x0 x1 ((gA M18 b20 (ixn x1)) - (1 : Int32))) fun M21 r22 =>
  grd (inb (6 : Int32) (gN M21 b19)) <| bnd (sB M21 b19 (ixn (6 : Int32)) (r22 / (1000 : Int64))) fun M23 =>
  lr (gR M23 1344 x0) (gK M23) 21 fun b24 =>
  grd (inb (7 : Int32) (gN M23 b24)) <| bnd (sB M23 b24 (ixn (7 : Int32)) (x1.toInt64)) fun M25 =>
  lr (gR M25 1344 x0) (gK M25) 21 fun b26 =>
  lr (gR M25 1308 x0) (gK M25) 20 fun b27 =>
  grd (inb x1 (gN M25 b27)) <|
  grd (inb (8 : Int32) (gN M25 b26)) <| bnd (sB M25 b26 (ixn (8 : Int32)) ((gA M25 b27 (ixn x1)).toInt64)) fun M28 =>
  (F_X12_mayOf_p238 F_X12_mayOf_p274 FU) M28 x0 x4 (0 : Int32)
  else
  some (M, (0 : Int64))
def F_X12_mayOf (M : Mem) (a0 : Nat) (a1 : Int32) (a2 : Int32) : Option (Mem × Int64) :=
  bnd ((gI M 1301 a0) / (24 : Int32)) fun v1 =>
  (F_X12_mayOf_p14 F_X12_mayOf_p94 FU) M a0 a1 a2 v1 (-1 : Int32) (0 : Int32)
abbrev P_X12_begins : MP := (RX12, cX12_begins, 3, none, 3, 76)
def F_X12_begins_p52 (k107 : Mem → Nat → Int32 → Option (Mem × Unit)) : Nat → Mem → Nat → Int32 → Int32 → Option (Mem × Unit)
  | 0, _, _, _, _ => none
  | n + 1, M, x0, x1, x2 =>
    lr (gR M 1305 x0) (gK M) 20 fun b1 =>
    grd (inb x1 (gN M b1)) <|
    if (gA M b1 (ixn x1)) ≤ x2 then
    k107 M x0 x1
    else
    lr (gR M 1346 x0) (gK M) 21 fun b2 =>
    cl (F_X12_warmthOf M x0 x1 x2) fun M3 r4 =>
    grd (inb (((8 : Int32) * x1) + x2) (gN M3 b2)) <| bnd (sB M3 b2 (ixn (((8 : Int32) * x1) + x2)) r4) fun M5 =>
    lr (gR M5 1347 x0) (gK M5) 21 fun b6 =>
    lr (gR M5 1313 x0) (gK M5) 21 fun b7 =>
    grd (inb (((8 : Int32) * x1) + x2) (gN M5 b7)) <|
    grd (inb (((8 : Int32) * x1) + x2) (gN M5 b6)) <| bnd (sB M5 b6 (ixn (((8 : Int32) * x1) + x2)) (gB M5 b7 (ixn (((8 : Int32) * x1) + x2)))) fun M8 =>
    bnd (x2 + 1) fun v9 =>
    (F_X12_begins_p52 k107 n) M8 x0 x1 v9
def F_X12_begins_p107 (k2 : Mem → Nat → Int32 → Option (Mem × Unit)) (M : Mem) (x0 : Nat) (x1 : Int32) : Option (Mem × Unit) :=
  bnd (x1 + 1) fun v1 =>
  k2 M x0 v1
def F_X12_begins_p2 (k113 : Mem → Option (Mem × Unit)) : Nat → Mem → Nat → Int32 → Option (Mem × Unit)
  | 0, _, _, _ => none
  | n + 1, M, x0, x1 =>
    if (gI M 1302 x0) ≤ x1 then
    k113 M
    else
    lr (gR M 1348 x0) (gK M) 21 fun b1 =>
    cl (F_X12_mayOf M x0 x1 (1 : Int32)) fun M2 r3 =>
    grd (inb x1 (gN M2 b1)) <| bnd (sB M2 b1 (ixn x1) r3) fun M4 =>
    lr (gR M4 1349 x0) (gK M4) 21 fun b5 =>
    cl (F_X12_mayOf M4 x0 x1 (0 : Int32)) fun M6 r7 =>
    grd (inb x1 (gN M6 b5)) <| bnd (sB M6 b5 (ixn x1) r7) fun M8 =>
    lr (gR M8 1350 x0) (gK M8) 21 fun b9 =>
    cl (F_X12_warmthOf M8 x0 x1 (0 : Int32)) fun M10 r11 =>
    cl (F_X12_liftAt M10 x0 r11) fun M12 r13 =>
    grd (inb x1 (gN M12 b9)) <| bnd (sB M12 b9 (ixn x1) r13) fun M14 =>
    (F_X12_begins_p52 (F_X12_begins_p107 (F_X12_begins_p2 k113 n)) FU) M14 x0 x1 (0 : Int32)
def F_X12_begins_p113 (M : Mem) : Option (Mem × Unit) :=
  some (M, ())
def F_X12_begins (M : Mem) (a0 : Nat) : Option (Mem × Unit) :=
  (F_X12_begins_p2 F_X12_begins_p113 FU) M a0 (0 : Int32)
abbrev P_X12_atFirst : MP := (RX12, cX12_atFirst, 3, (some .long), 1, 22)
def F_X12_atFirst (M : Mem) (a0 : Nat) (a1 : Int32) (a2 : Int32) : Option (Mem × Int64) :=
  lr (gR M 1308 a0) (gK M) 20 fun b1 =>
  grd (inb a1 (gN M b1)) <|
  cl (F_X12_holdOf M a0 a1 a2) fun M2 r3 =>
  some (M2, ((1000 : Int64) * ((gA M b1 (ixn a1)).toInt64)) * (r3.toInt64))
abbrev P_X12_farOf : MP := (RX12, cX12_farOf, 5, (some .int), 0, 0)
def F_X12_farOf_p103 (M : Mem) (y0 : Int32) : Option (Mem × Int32) :=
  some (M, y0)
def F_X12_farOf_p89 (M : Mem) (x3 : Int32) (y0 : Int32) : Option (Mem × Int32) :=
  if x3 ≤ y0 then
  F_X12_farOf_p103 M y0
  else
  F_X12_farOf_p103 M x3
def F_X12_farOf_p44 (M : Mem) (x0 : Nat) (x1 : Int32) (x2 : Int32) (y0 : Int32) : Option (Mem × Int32) :=
  lr (gR M 1304 x0) (gK M) 20 fun b1 =>
  grd (inb x1 (gN M b1)) <|
  lr (gR M 1304 x0) (gK M) 20 fun b2 =>
  grd (inb x2 (gN M b2)) <|
  if (gA M b2 (ixn x2)) ≤ (gA M b1 (ixn x1)) then
  lr (gR M 1304 x0) (gK M) 20 fun b3 =>
  grd (inb x1 (gN M b3)) <|
  lr (gR M 1304 x0) (gK M) 20 fun b4 =>
  grd (inb x2 (gN M b4)) <|
  F_X12_farOf_p89 M y0 ((gA M b3 (ixn x1)) - (gA M b4 (ixn x2)))
  else
  lr (gR M 1304 x0) (gK M) 20 fun b5 =>
  grd (inb x2 (gN M b5)) <|
  lr (gR M 1304 x0) (gK M) 20 fun b6 =>
  grd (inb x1 (gN M b6)) <|
  F_X12_farOf_p89 M y0 ((gA M b5 (ixn x2)) - (gA M b6 (ixn x1)))
def F_X12_farOf (M : Mem) (a0 : Nat) (a1 : Int32) (a2 : Int32) : Option (Mem × Int32) :=
  lr (gR M 1303 a0) (gK M) 20 fun b1 =>
  grd (inb a1 (gN M b1)) <|
  lr (gR M 1303 a0) (gK M) 20 fun b2 =>
  grd (inb a2 (gN M b2)) <|
  if (gA M b2 (ixn a2)) ≤ (gA M b1 (ixn a1)) then
  lr (gR M 1303 a0) (gK M) 20 fun b3 =>
  grd (inb a1 (gN M b3)) <|
  lr (gR M 1303 a0) (gK M) 20 fun b4 =>
  grd (inb a2 (gN M b4)) <|
  F_X12_farOf_p44 M a0 a1 a2 ((gA M b3 (ixn a1)) - (gA M b4 (ixn a2)))
  else
  lr (gR M 1303 a0) (gK M) 20 fun b5 =>
  grd (inb a2 (gN M b5)) <|
  lr (gR M 1303 a0) (gK M) 20 fun b6 =>
  grd (inb a1 (gN M b6)) <|
  F_X12_farOf_p44 M a0 a1 a2 ((gA M b5 (ixn a2)) - (gA M b6 (ixn a1)))
abbrev P_X12_ground : MP := (RX12, cX12_ground, 8, none, 2, 44)
def F_X12_ground_p21 (k105 : Mem → Nat → Int32 → Int32 → Option (Mem × Unit)) : Nat → Mem → Nat → Int32 → Int32 → Int32 → Option (Mem × Unit)
  | 0, _, _, _, _, _ => none
  | n + 1, M, x0, x1, x2, x3 =>
    if x2 ≤ x3 then
    k105 M x0 x1 x2
    else
    lr (gR M 1309 x0) (gK M) 20 fun b1 =>
    grd (inb x1 (gN M b1)) <|
    lr (gR M 1346 x0) (gK M) 21 fun b2 =>
    grd (inb (((8 : Int32) * x1) + x3) (gN M b2)) <|
    lr (gR M 1346 x0) (gK M) 21 fun b3 =>
    grd (inb ((((8 : Int32) * x1) + x3) + (1 : Int32)) (gN M b3)) <|
    bnd ((((gA M b1 (ixn x1)).toInt64) * ((gB M b2 (ixn (((8 : Int32) * x1) + x3))) - (gB M b3 (ixn ((((8 : Int32) * x1) + x3) + (1 : Int32)))))) / (100 : Int64)) fun v4 =>
    lr (gR M 1313 x0) (gK M) 21 fun b5 =>
    grd (inb (((8 : Int32) * x1) + x3) (gN M b5)) <|
    grd (inb (((8 : Int32) * x1) + x3) (gN M b5)) <| bnd (sB M b5 (ixn (((8 : Int32) * x1) + x3)) ((gB M b5 (ixn (((8 : Int32) * x1) + x3))) - v4)) fun M6 =>
    lr (gR M6 1313 x0) (gK M6) 21 fun b7 =>
    grd (inb ((((8 : Int32) * x1) + x3) + (1 : Int32)) (gN M6 b7)) <|
    grd (inb ((((8 : Int32) * x1) + x3) + (1 : Int32)) (gN M6 b7)) <| bnd (sB M6 b7 (ixn ((((8 : Int32) * x1) + x3) + (1 : Int32))) ((gB M6 b7 (ixn ((((8 : Int32) * x1) + x3) + (1 : Int32)))) + v4)) fun M8 =>
    bnd (x3 + 1) fun v9 =>
    (F_X12_ground_p21 k105 n) M8 x0 x1 x2 v9
def F_X12_ground_p170 (k245 : Mem → Nat → Int32 → Option (Mem × Unit)) : Nat → Mem → Nat → Int32 → Int32 → Int32 → Option (Mem × Unit)
  | 0, _, _, _, _, _ => none
  | n + 1, M, x0, x1, x2, x5 =>
    if x2 < x5 then
    k245 M x0 x1
    else
    lr (gR M 1347 x0) (gK M) 21 fun b1 =>
    grd (inb (((8 : Int32) * x1) + x5) (gN M b1)) <|
    cl (F_X12_atFirst M x0 x1 x5) fun M2 r3 =>
    lr (gR M2 1310 x0) (gK M2) 20 fun b4 =>
    grd (inb x1 (gN M2 b4)) <|
    bnd ((((gB M b1 (ixn (((8 : Int32) * x1) + x5))) - r3) * ((gA M2 b4 (ixn x1)).toInt64)) / (1000 : Int64)) fun v5 =>
    lr (gR M2 1313 x0) (gK M2) 21 fun b6 =>
    grd (inb (((8 : Int32) * x1) + x5) (gN M2 b6)) <|
    grd (inb (((8 : Int32) * x1) + x5) (gN M2 b6)) <| bnd (sB M2 b6 (ixn (((8 : Int32) * x1) + x5)) ((gB M2 b6 (ixn (((8 : Int32) * x1) + x5))) - v5)) fun M7 =>
    lr (gR M7 1315 x0) (gK M7) 21 fun b8 =>
    grd (inb (8 : Int32) (gN M7 b8)) <|
    grd (inb (8 : Int32) (gN M7 b8)) <| bnd (sB M7 b8 (ixn (8 : Int32)) ((gB M7 b8 (ixn (8 : Int32))) + v5)) fun M9 =>
    bnd (x5 + 1) fun v10 =>
    (F_X12_ground_p170 k245 n) M9 x0 x1 x2 v10
def F_X12_ground_p245 (k2 : Mem → Nat → Int32 → Option (Mem × Unit)) (M : Mem) (x0 : Nat) (x1 : Int32) : Option (Mem × Unit) :=
  bnd (x1 + 1) fun v1 =>
  k2 M x0 v1
def F_X12_ground_p105 (k2 : Mem → Nat → Int32 → Option (Mem × Unit)) (M : Mem) (x0 : Nat) (x1 : Int32) (x2 : Int32) : Option (Mem × Unit) :=
  lr (gR M 1309 x0) (gK M) 20 fun b1 =>
  grd (inb x1 (gN M b1)) <|
  lr (gR M 1346 x0) (gK M) 21 fun b2 =>
  grd (inb (((8 : Int32) * x1) + x2) (gN M b2)) <|
  lr (gR M 1308 x0) (gK M) 20 fun b3 =>
  grd (inb x1 (gN M b3)) <|
  bnd ((((gA M b1 (ixn x1)).toInt64) * ((gB M b2 (ixn (((8 : Int32) * x1) + x2))) - ((1000 : Int64) * ((gA M b3 (ixn x1)).toInt64)))) / (100 : Int64)) fun v4 =>
  lr (gR M 1313 x0) (gK M) 21 fun b5 =>
  grd (inb (((8 : Int32) * x1) + x2) (gN M b5)) <|
  grd (inb (((8 : Int32) * x1) + x2) (gN M b5)) <| bnd (sB M b5 (ixn (((8 : Int32) * x1) + x2)) ((gB M b5 (ixn (((8 : Int32) * x1) + x2))) - v4)) fun M6 =>
  lr (gR M6 1315 x0) (gK M6) 21 fun b7 =>
  grd (inb (7 : Int32) (gN M6 b7)) <|
  grd (inb (7 : Int32) (gN M6 b7)) <| bnd (sB M6 b7 (ixn (7 : Int32)) ((gB M6 b7 (ixn (7 : Int32))) + v4)) fun M8 =>
  (F_X12_ground_p170 (F_X12_ground_p245 k2) FU) M8 x0 x1 x2 (0 : Int32)
def F_X12_ground_p2 (k251 : Mem → Nat → Option (Mem × Unit)) : Nat → Mem → Nat → Int32 → Option (Mem × Unit)
  | 0, _, _, _ => none
  | n + 1, M, x0, x1 =>
    if (gI M 1302 x0) ≤ x1 then
    k251 M x0
    else
    lr (gR M 1305 x0) (gK M) 20 fun b1 =>
    grd (inb x1 (gN M b1)) <|
    bnd ((gA M b1 (ixn x1)) - (1 : Int32)) fun v2 =>
    (F_X12_ground_p21 (F_X12_ground_p105 (F_X12_ground_p2 k251 n)) FU) M x0 x1 v2 (0 : Int32)
def F_X12_ground_p372 (k265 : Mem → Nat → Int32 → Int32 → Option (Mem × Unit)) (M : Mem) (x0 : Nat) (x1 : Int32) (x2 : Int32) : Option (Mem × Unit) :=
  bnd (x2 + 1) fun v1 =>
  k265 M x0 x1 v1
def F_X12_ground_p265 (k378 : Mem → Nat → Int32 → Option (Mem × Unit)) : Nat → Mem → Nat → Int32 → Int32 → Option (Mem × Unit)
  | 0, _, _, _, _ => none
  | n + 1, M, x0, x1, x2 =>
    if (gI M 1302 x0) ≤ x2 then
    k378 M x0 x1
    else
    cl (F_X12_farOf M x0 x1 x2) fun M1 r2 =>
    if (9 : Int32) < r2 then
    (F_X12_ground_p372 (F_X12_ground_p265 k378 n)) M1 x0 x1 x2
    else
    lr (gR M1 1305 x0) (gK M1) 20 fun b3 =>
    grd (inb x1 (gN M1 b3)) <|
    bnd ((((8 : Int32) * x1) + (gA M1 b3 (ixn x1))) - (1 : Int32)) fun v4 =>
    lr (gR M1 1305 x0) (gK M1) 20 fun b5 =>
    grd (inb x2 (gN M1 b5)) <|
    bnd ((((8 : Int32) * x2) + (gA M1 b5 (ixn x2))) - (1 : Int32)) fun v6 =>
    lr (gR M1 1346 x0) (gK M1) 21 fun b7 =>
    grd (inb v4 (gN M1 b7)) <|
    lr (gR M1 1346 x0) (gK M1) 21 fun b8 =>
    grd (inb v6 (gN M1 b8)) <|
    grd (¬ ((100 : Int64) * ((r2 + (1 : Int32)).toInt64)) = 0) <|
    bnd ((((gI M1 1312 x0).toInt64) * ((gB M1 b7 (ixn v4)) - (gB M1 b8 (ixn v6)))) / ((100 : Int64) * ((r2 + (1 : Int32)).toInt64))) fun v9 =>
    lr (gR M1 1313 x0) (gK M1) 21 fun b10 =>
    grd (inb v4 (gN M1 b10)) <|
    grd (inb v4 (gN M1 b10)) <| bnd (sB M1 b10 (ixn v4) ((gB M1 b10 (ixn v4)) - v9)) fun M11 =>
    lr (gR M11 1313 x0) (gK M11) 21 fun b12 =>
    grd (inb v6 (gN M11 b12)) <|
    grd (inb v6 (gN M11 b12)) <| bnd (sB M11 b12 (ixn v6) ((gB M11 b12 (ixn v6)) + v9)) fun M13 =>
    (F_X12_ground_p372 (F_X12_ground_p265 k378 n)) M13 x0 x1 x2
def F_X12_ground_p378 (k253 : Mem → Nat → Int32 → Option (Mem × Unit)) (M : Mem) (x0 : Nat) (x1 : Int32) : Option (Mem × Unit) :=
  bnd (x1 + 1) fun v1 =>
  k253 M x0 v1
def F_X12_ground_p253 (k384 : Mem → Option (Mem × Unit)) : Nat → Mem → Nat → Int32 → Option (Mem × Unit)
  | 0, _, _, _ => none
  | n + 1, M, x0, x1 =>
    if (gI M 1302 x0) ≤ x1 then
    k384 M
    else
    bnd (x1 + (1 : Int32)) fun v1 =>
    (F_X12_ground_p265 (F_X12_ground_p378 (F_X12_ground_p253 k384 n)) FU) M x0 x1 v1
def F_X12_ground_p384 (M : Mem) : Option (Mem × Unit) :=
  some (M, ())
def F_X12_ground_p251 (M : Mem) (x0 : Nat) : Option (Mem × Unit) :=
  (F_X12_ground_p253 F_X12_ground_p384 FU) M x0 (0 : Int32)
def F_X12_ground (M : Mem) (a0 : Nat) : Option (Mem × Unit) :=
  (F_X12_ground_p2 F_X12_ground_p251 FU) M a0 (0 : Int32)
abbrev P_X12_goes : MP := (RX12, cX12_goes, 14, none, 4, 98)
def F_X12_goes_p90 (k20 : Mem → Nat → Int64 → Int32 → Option (Mem × Unit)) (M : Mem) (x0 : Nat) (x1 : Int64) (x3 : Int32) : Option (Mem × Unit) :=
  bnd (x3 + 1) fun v1 =>
  k20 M x0 x1 v1
def F_X12_goes_p58 (k20 : Mem → Nat → Int64 → Int32 → Option (Mem × Unit)) (M : Mem) (x0 : Nat) (x1 : Int64) (x3 : Int32) (y0 : Int64) : Option (Mem × Unit) :=
  bnd (x1 - y0) fun v1 =>
  lr (gR M 1313 x0) (gK M) 21 fun b2 =>
  grd (inb ((8 : Int32) * x3) (gN M b2)) <|
  grd (inb ((8 : Int32) * x3) (gN M b2)) <| bnd (sB M b2 (ixn ((8 : Int32) * x3)) ((gB M b2 (ixn ((8 : Int32) * x3))) + y0)) fun M3 =>
  lr (gR M3 1315 x0) (gK M3) 21 fun b4 =>
  grd (inb (0 : Int32) (gN M3 b4)) <|
  grd (inb (0 : Int32) (gN M3 b4)) <| bnd (sB M3 b4 (ixn (0 : Int32)) ((gB M3 b4 (ixn (0 : Int32))) + y0)) fun M5 =>
  (F_X12_goes_p90 k20) M5 x0 v1 x3
def F_X12_goes_p20 (k96 : Mem → Nat → Int64 → Option (Mem × Unit)) : Nat → Mem → Nat → Int64 → Int32 → Option (Mem × Unit)
  | 0, _, _, _, _ => none
  | n + 1, M, x0, x1, x3 =>
    if (gI M 1302 x0) ≤ x3 then
    k96 M x0 x1
    else
    lr (gR M 1311 x0) (gK M) 22 fun b1 =>
    grd (inb x3 (gN M b1)) <|
    if (gA M b1 (ixn x3)) = 0 then
    (F_X12_goes_p90 (F_X12_goes_p20 k96 n)) M x0 x1 x3
    else
    lr (gR M 1348 x0) (gK M) 21 fun b2 =>
    grd (inb x3 (gN M b2)) <|
    if 0 ≤ (lg_cmp (gB M b2 (ixn x3)) x1) then
    (F_X12_goes_p58 (F_X12_goes_p20 k96 n)) M x0 x1 x3 x1
    else
    lr (gR M 1348 x0) (gK M) 21 fun b3 =>
    grd (inb x3 (gN M b3)) <|
    (F_X12_goes_p58 (F_X12_goes_p20 k96 n)) M x0 x1 x3 (gB M b3 (ixn x3))
def F_X12_goes_p329 (k121 : Mem → Nat → Int64 → Int64 → Int32 → Option (Mem × Unit)) (M : Mem) (x0 : Nat) (x3 : Int64) (x5 : Int64) (x7 : Int32) : Option (Mem × Unit) :=
  bnd (x7 + 1) fun v1 =>
  k121 M x0 x3 x5 v1
def F_X12_goes_p247 (k121 : Mem → Nat → Int64 → Int64 → Int32 → Option (Mem × Unit)) (M : Mem) (x0 : Nat) (x3 : Int64) (x5 : Int64) (x7 : Int32) (y0 : Int64) : Option (Mem × Unit) :=
  lr (gR M 1350 x0) (gK M) 21 fun b1 =>
  grd (inb x7 (gN M b1)) <|
  bnd ((y0 * (gB M b1 (ixn x7))) / (100 : Int64)) fun v2 =>
  lr (gR M 1313 x0) (gK M) 21 fun b3 =>
  grd (inb ((8 : Int32) * x7) (gN M b3)) <|
  grd (inb ((8 : Int32) * x7) (gN M b3)) <| bnd (sB M b3 (ixn ((8 : Int32) * x7)) ((gB M b3 (ixn ((8 : Int32) * x7))) - y0)) fun M4 =>
  lr (gR M4 1314 x0) (gK M4) 21 fun b5 =>
  grd (inb x7 (gN M4 b5)) <|
  grd (inb x7 (gN M4 b5)) <| bnd (sB M4 b5 (ixn x7) ((gB M4 b5 (ixn x7)) + y0)) fun M6 =>
  lr (gR M6 1315 x0) (gK M6) 21 fun b7 =>
  grd (inb (2 : Int32) (gN M6 b7)) <|
  grd (inb (2 : Int32) (gN M6 b7)) <| bnd (sB M6 b7 (ixn (2 : Int32)) ((gB M6 b7 (ixn (2 : Int32))) + y0)) fun M8 =>
  lr (gR M8 1315 x0) (gK M8) 21 fun b9 =>
  grd (inb (3 : Int32) (gN M8 b9)) <|
  grd (inb (3 : Int32) (gN M8 b9)) <| bnd (sB M8 b9 (ixn (3 : Int32)) ((gB M8 b9 (ixn (3 : Int32))) + v2)) fun M10 =>
  bnd (x5 + (v2 - y0)) fun v11 =>
  bnd (x3 - v2) fun v12 =>
  (F_X12_goes_p329 k121) M10 x0 v12 v11 x7
def F_X12_goes_p230 (k121 : Mem → Nat → Int64 → Int64 → Int32 → Option (Mem × Unit)) (M : Mem) (x0 : Nat) (x3 : Int64) (x5 : Int64) (x7 : Int32) (x10 : Int64) (y0 : Int64) : Option (Mem × Unit) :=
  if (lg_cmp y0 x10) ≤ 0 then
  (F_X12_goes_p247 k121) M x0 x3 x5 x7 y0
  else
  (F_X12_goes_p247 k121) M x0 x3 x5 x7 x10
def F_X12_goes_p203 (k121 : Mem → Nat → Int64 → Int64 → Int32 → Option (Mem × Unit)) (M : Mem) (x0 : Nat) (x3 : Int64) (x5 : Int64) (x7 : Int32) (x8 : Int64) (y0 : Int64) : Option (Mem × Unit) :=
  lr (gR M 1349 x0) (gK M) 21 fun b1 =>
  grd (inb x7 (gN M b1)) <|
  if (lg_cmp x8 (gB M b1 (ixn x7))) ≤ 0 then
  (F_X12_goes_p230 k121) M x0 x3 x5 x7 y0 x8
  else
  lr (gR M 1349 x0) (gK M) 21 fun b2 =>
  grd (inb x7 (gN M b2)) <|
  (F_X12_goes_p230 k121) M x0 x3 x5 x7 y0 (gB M b2 (ixn x7))
def F_X12_goes_p121 (k335 : Mem → Nat → Int64 → Int64 → Option (Mem × Unit)) : Nat → Mem → Nat → Int64 → Int64 → Int32 → Option (Mem × Unit)
  | 0, _, _, _, _, _ => none
  | n + 1, M, x0, x3, x5, x7 =>
    if (gI M 1302 x0) ≤ x7 then
    k335 M x0 x3 x5
    else
    lr (gR M 1311 x0) (gK M) 22 fun b1 =>
    grd (inb x7 (gN M b1)) <|
    if (gA M b1 (ixn x7)) = 0 then
    (F_X12_goes_p329 (F_X12_goes_p121 k335 n)) M x0 x3 x5 x7
    else
    lr (gR M 1346 x0) (gK M) 21 fun b2 =>
    grd (inb ((8 : Int32) * x7) (gN M b2)) <|
    if (lg_cmp (gB M b2 (ixn ((8 : Int32) * x7))) (0 : Int64)) ≤ 0 then
    (F_X12_goes_p329 (F_X12_goes_p121 k335 n)) M x0 x3 x5 x7
    else
    lr (gR M 1350 x0) (gK M) 21 fun b3 =>
    grd (inb x7 (gN M b3)) <|
    grd (¬ (gB M b3 (ixn x7)) = 0) <|
    bnd ((((x3 + (1 : Int64)) * (100 : Int64)) - (1 : Int64)) / (gB M b3 (ixn x7))) fun v4 =>
    lr (gR M 1313 x0) (gK M) 21 fun b5 =>
    grd (inb ((8 : Int32) * x7) (gN M b5)) <|
    if 0 ≤ (lg_cmp (gB M b5 (ixn ((8 : Int32) * x7))) (0 : Int64)) then
    lr (gR M 1313 x0) (gK M) 21 fun b6 =>
    grd (inb ((8 : Int32) * x7) (gN M b6)) <|
    (F_X12_goes_p203 (F_X12_goes_p121 k335 n)) M x0 x3 x5 x7 v4 (gB M b6 (ixn ((8 : Int32) * x7)))
    else
    (F_X12_goes_p203 (F_X12_goes_p121 k335 n)) M x0 x3 x5 x7 v4 (0 : Int64)
def F_X12_goes_p335 (M : Mem) (x0 : Nat) (x3 : Int64) (x5 : Int64) : Option (Mem × Unit) :=
  lr (gR M 1315 x0) (gK M) 21 fun b1 =>
  grd (inb (4 : Int32) (gN M b1)) <|
  grd (inb (4 : Int32) (gN M b1)) <| bnd (sB M b1 (ixn (4 : Int32)) ((gB M b1 (ixn (4 : Int32))) + x5)) fun M2 =>
  lr (gR M2 1315 x0) (gK M2) 21 fun b3 =>
  grd (inb (5 : Int32) (gN M2 b3)) <|
  grd (inb (5 : Int32) (gN M2 b3)) <| bnd (sB M2 b3 (ixn (5 : Int32)) ((gB M2 b3 (ixn (5 : Int32))) + x3)) fun M4 =>
  lr (gR M4 1315 x0) (gK M4) 21 fun b5 =>
  grd (inb (6 : Int32) (gN M4 b5)) <|
  lr (gR M4 1325 x0) (gK M4) 20 fun b6 =>
  grd (inb ((gI M4 1301 x0) - (gI M4 1301 x0) / (24 : Int32) * (24 : Int32)) (gN M4 b6)) <|
  grd (inb (6 : Int32) (gN M4 b5)) <| bnd (sB M4 b5 (ixn (6 : Int32)) ((gB M4 b5 (ixn (6 : Int32))) + (((x5 + x3) * ((gA M4 b6 (ixn ((gI M4 1301 x0) - (gI M4 1301 x0) / (24 : Int32) * (24 : Int32)))).toInt64)) / (100 : Int64)))) fun M7 =>
  cl (F_X12_ground M7 x0) fun M8 _ =>
  bnd (sI M8 1301 x0 ((gI M8 1301 x0) + (1 : Int32))) fun M10 =>
  some (M10, ())
def F_X12_goes_p96 (M : Mem) (x0 : Nat) (x1 : Int64) : Option (Mem × Unit) :=
  lr (gR M 1315 x0) (gK M) 21 fun b1 =>
  grd (inb (1 : Int32) (gN M b1)) <|
  grd (inb (1 : Int32) (gN M b1)) <| bnd (sB M b1 (ixn (1 : Int32)) ((gB M b1 (ixn (1 : Int32))) + x1)) fun M2 =>
  cl (F_X12_needOf M2 x0 (gI M2 1301 x0)) fun M3 r4 =>
  (F_X12_goes_p121 F_X12_goes_p335 FU) M3 x0 r4 (0 : Int64) (0 : Int32)
def F_X12_goes (M : Mem) (a0 : Nat) : Option (Mem × Unit) :=
  cl (F_X12_begins M a0) fun M1 _ =>
  lr (gR M1 1326 a0) (gK M1) 20 fun b3 =>
  grd (inb ((gI M1 1301 a0) - (gI M1 1301 a0) / (24 : Int32) * (24 : Int32)) (gN M1 b3)) <|
  bnd ((gA M1 b3 (ixn ((gI M1 1301 a0) - (gI M1 1301 a0) / (24 : Int32) * (24 : Int32)))).toInt64) fun v4 =>
  (F_X12_goes_p20 F_X12_goes_p96 FU) M1 a0 v4 (0 : Int32)
abbrev P_X12_in : MP := (RX12, cX12_in, 6, (some .boolean), 0, 0)
def F_X12_in_p18 (M : Mem) (y0 : Int32) : Option (Mem × Int32) :=
  grd (y0 = 0 ∨ y0 = 1) <| some (M, y0)
def F_X12_in_p17 (M : Mem) : Option (Mem × Int32) :=
  F_X12_in_p18 M (0 : Int32)
def F_X12_in (M : Mem) (a0 : Int64) (a1 : Int64) (a2 : Int64) : Option (Mem × Int32) :=
  if (lg_cmp a0 a1) < 0 then
  F_X12_in_p17 M
  else
  if 0 < (lg_cmp a0 a2) then
  F_X12_in_p17 M
  else
  F_X12_in_p18 M (1 : Int32)
abbrev P_X12_keeps : MP := (RX12, cX12_keeps, 2, none, 0, 0)
def F_X12_keeps_p10 (k34 : Mem → Nat → Option (Mem × Unit)) : Nat → Mem → Nat → Int32 → Option (Mem × Unit)
  | 0, _, _, _ => none
  | n + 1, M, x0, x1 =>
    if (64 : Int32) ≤ x1 then
    k34 M x0
    else
    lr (gR M 1351 x0) (gK M) 21 fun b1 =>
    lr (gR M 1313 x0) (gK M) 21 fun b2 =>
    grd (inb x1 (gN M b2)) <|
    grd (inb x1 (gN M b1)) <| bnd (sB M b1 (ixn x1) (gB M b2 (ixn x1))) fun M3 =>
    bnd (x1 + 1) fun v4 =>
    (F_X12_keeps_p10 k34 n) M3 x0 v4
def F_X12_keeps_p36 (k60 : Mem → Nat → Option (Mem × Unit)) : Nat → Mem → Nat → Int32 → Option (Mem × Unit)
  | 0, _, _, _ => none
  | n + 1, M, x0, x1 =>
    if (9 : Int32) ≤ x1 then
    k60 M x0
    else
    lr (gR M 1353 x0) (gK M) 21 fun b1 =>
    lr (gR M 1315 x0) (gK M) 21 fun b2 =>
    grd (inb x1 (gN M b2)) <|
    grd (inb x1 (gN M b1)) <| bnd (sB M b1 (ixn x1) (gB M b2 (ixn x1))) fun M3 =>
    bnd (x1 + 1) fun v4 =>
    (F_X12_keeps_p36 k60 n) M3 x0 v4
def F_X12_keeps_p62 (k98 : Mem → Option (Mem × Unit)) : Nat → Mem → Nat → Int32 → Option (Mem × Unit)
  | 0, _, _, _ => none
  | n + 1, M, x0, x1 =>
    if (8 : Int32) ≤ x1 then
    k98 M
    else
    lr (gR M 1352 x0) (gK M) 21 fun b1 =>
    lr (gR M 1314 x0) (gK M) 21 fun b2 =>
    grd (inb x1 (gN M b2)) <|
    grd (inb x1 (gN M b1)) <| bnd (sB M b1 (ixn x1) (gB M b2 (ixn x1))) fun M3 =>
    lr (gR M3 1354 x0) (gK M3) 22 fun b4 =>
    lr (gR M3 1311 x0) (gK M3) 22 fun b5 =>
    grd (inb x1 (gN M3 b5)) <|
    grd ((inb x1 (gN M3 b4)) ∧ ((gA M3 b5 (ixn x1)) = 0 ∨ (gA M3 b5 (ixn x1)) = 1)) <| bnd (sA M3 b4 (ixn x1) (gA M3 b5 (ixn x1))) fun M6 =>
    bnd (x1 + 1) fun v7 =>
    (F_X12_keeps_p62 k98 n) M6 x0 v7
def F_X12_keeps_p98 (M : Mem) : Option (Mem × Unit) :=
  some (M, ())
def F_X12_keeps_p60 (M : Mem) (x0 : Nat) : Option (Mem × Unit) :=
  (F_X12_keeps_p62 F_X12_keeps_p98 FU) M x0 (0 : Int32)
def F_X12_keeps_p34 (M : Mem) (x0 : Nat) : Option (Mem × Unit) :=
  (F_X12_keeps_p36 F_X12_keeps_p60 FU) M x0 (0 : Int32)
def F_X12_keeps (M : Mem) (a0 : Nat) : Option (Mem × Unit) :=
  bnd (sI M 1355 a0 (gI M 1301 a0)) fun M1 =>
  (F_X12_keeps_p10 F_X12_keeps_p34 FU) M1 a0 (0 : Int32)
abbrev P_X12_laysBack : MP := (RX12, cX12_laysBack, 2, none, 0, 0)
def F_X12_laysBack_p10 (k34 : Mem → Nat → Option (Mem × Unit)) : Nat → Mem → Nat → Int32 → Option (Mem × Unit)
  | 0, _, _, _ => none
  | n + 1, M, x0, x1 =>
    if (64 : Int32) ≤ x1 then
    k34 M x0
    else
    lr (gR M 1313 x0) (gK M) 21 fun b1 =>
    lr (gR M 1351 x0) (gK M) 21 fun b2 =>
    grd (inb x1 (gN M b2)) <|
    grd (inb x1 (gN M b1)) <| bnd (sB M b1 (ixn x1) (gB M b2 (ixn x1))) fun M3 =>
    bnd (x1 + 1) fun v4 =>
    (F_X12_laysBack_p10 k34 n) M3 x0 v4
def F_X12_laysBack_p36 (k60 : Mem → Nat → Option (Mem × Unit)) : Nat → Mem → Nat → Int32 → Option (Mem × Unit)
  | 0, _, _, _ => none
  | n + 1, M, x0, x1 =>
    if (9 : Int32) ≤ x1 then
    k60 M x0
    else
    lr (gR M 1315 x0) (gK M) 21 fun b1 =>
    lr (gR M 1353 x0) (gK M) 21 fun b2 =>
    grd (inb x1 (gN M b2)) <|
    grd (inb x1 (gN M b1)) <| bnd (sB M b1 (ixn x1) (gB M b2 (ixn x1))) fun M3 =>
    bnd (x1 + 1) fun v4 =>
    (F_X12_laysBack_p36 k60 n) M3 x0 v4
def F_X12_laysBack_p62 (k98 : Mem → Option (Mem × Unit)) : Nat → Mem → Nat → Int32 → Option (Mem × Unit)
  | 0, _, _, _ => none
  | n + 1, M, x0, x1 =>
    if (8 : Int32) ≤ x1 then
    k98 M
    else
    lr (gR M 1314 x0) (gK M) 21 fun b1 =>
    lr (gR M 1352 x0) (gK M) 21 fun b2 =>
    grd (inb x1 (gN M b2)) <|
    grd (inb x1 (gN M b1)) <| bnd (sB M b1 (ixn x1) (gB M b2 (ixn x1))) fun M3 =>
    lr (gR M3 1311 x0) (gK M3) 22 fun b4 =>
    lr (gR M3 1354 x0) (gK M3) 22 fun b5 =>
    grd (inb x1 (gN M3 b5)) <|
    grd ((inb x1 (gN M3 b4)) ∧ ((gA M3 b5 (ixn x1)) = 0 ∨ (gA M3 b5 (ixn x1)) = 1)) <| bnd (sA M3 b4 (ixn x1) (gA M3 b5 (ixn x1))) fun M6 =>
    bnd (x1 + 1) fun v7 =>
    (F_X12_laysBack_p62 k98 n) M6 x0 v7
def F_X12_laysBack_p98 (M : Mem) : Option (Mem × Unit) :=
  some (M, ())
def F_X12_laysBack_p60 (M : Mem) (x0 : Nat) : Option (Mem × Unit) :=
  (F_X12_laysBack_p62 F_X12_laysBack_p98 FU) M x0 (0 : Int32)
def F_X12_laysBack_p34 (M : Mem) (x0 : Nat) : Option (Mem × Unit) :=
  (F_X12_laysBack_p36 F_X12_laysBack_p60 FU) M x0 (0 : Int32)
def F_X12_laysBack (M : Mem) (a0 : Nat) : Option (Mem × Unit) :=
  bnd (sI M 1301 a0 (gI M 1355 a0)) fun M1 =>
  (F_X12_laysBack_p10 F_X12_laysBack_p34 FU) M1 a0 (0 : Int32)
abbrev P_X12_refuse : MP := (RX12, cX12_refuse, 2, (some .int), 0, 0)
def F_X12_refuse (M : Mem) (a0 : Nat) (a1 : Int32) : Option (Mem × Int32) :=
  lr (gR M 1300 a0) (gK M) 20 fun b1 =>
  grd (inb (-a1) (gN M b1)) <|
  grd (inb (-a1) (gN M b1)) <| bnd (sA M b1 (ixn (-a1)) ((gA M b1 (ixn (-a1))) + (1 : Int32))) fun M2 =>
  some (M2, a1)
abbrev P_X12_refuseLong : MP := (RX12, cX12_refuseLong, 2, (some .long), 1, 21)
def F_X12_refuseLong (M : Mem) (a0 : Nat) (a1 : Int32) : Option (Mem × Int64) :=
  cl (F_X12_refuse M a0 a1) fun M1 r2 =>
  some (M1, (4000000000000000000 : Int64) - (r2.toInt64))
abbrev P_X12_ahead : MP := (RX12, cX12_ahead, 10, (some .long), 5, 131)
def F_X12_ahead_p14 (M : Mem) (x0 : Nat) : Option (Mem × Int64) :=
  cl (F_X12_refuseLong M x0 (-1 : Int32)) fun M1 r2 =>
  some (M1, r2)
def F_X12_ahead_p128 (k89 : Mem → Nat → Int32 → Int32 → Int32 → Int32 → Option (Mem × Int64)) (M : Mem) (x0 : Nat) (x1 : Int32) (x2 : Int32) (x3 : Int32) (x4 : Int32) (y0 : Nat) (y1 : Int32) (y2 : Int32) : Option (Mem × Int64) :=
  grd ((inb y1 (gN M y0)) ∧ (y2 = 0 ∨ y2 = 1)) <| bnd (sA M y0 (ixn y1) y2) fun M1 =>
  bnd (x4 + 1) fun v2 =>
  k89 M1 x0 x1 x2 x3 v2
def F_X12_ahead_p127 (k89 : Mem → Nat → Int32 → Int32 → Int32 → Int32 → Option (Mem × Int64)) (M : Mem) (x0 : Nat) (x1 : Int32) (x2 : Int32) (x3 : Int32) (x4 : Int32) (y0 : Nat) (y1 : Int32) : Option (Mem × Int64) :=
  (F_X12_ahead_p128 k89) M x0 x1 x2 x3 x4 y0 y1 (0 : Int32)
def F_X12_ahead_p89 (k135 : Mem → Nat → Int32 → Int32 → Option (Mem × Int64)) : Nat → Mem → Nat → Int32 → Int32 → Int32 → Int32 → Option (Mem × Int64)
  | 0, _, _, _, _, _, _ => none
  | n + 1, M, x0, x1, x2, x3, x4 =>
    if (gI M 1302 x0) ≤ x4 then
    k135 M x0 x1 x3
    else
    lr (gR M 1311 x0) (gK M) 22 fun b1 =>
    lr (gR M 1311 x0) (gK M) 22 fun b2 =>
    grd (inb x4 (gN M b2)) <|
    if (gA M b2 (ixn x4)) = 0 then
    (F_X12_ahead_p127 (F_X12_ahead_p89 k135 n)) M x0 x1 x2 x3 x4 b1 x4
    else
    if ((x2 >>> (x4 &&& 31)) &&& (1 : Int32)) = 0 then
    (F_X12_ahead_p128 (F_X12_ahead_p89 k135 n)) M x0 x1 x2 x3 x4 b1 x4 (1 : Int32)
    else
    (F_X12_ahead_p127 (F_X12_ahead_p89 k135 n)) M x0 x1 x2 x3 x4 b1 x4
def F_X12_ahead_p199 (k159 : Mem → Nat → Int32 → Int32 → Int64 → Int64 → Int32 → Int32 → Option (Mem × Int64)) (M : Mem) (x0 : Nat) (x1 : Int32) (x3 : Int32) (x4 : Int64) (x6 : Int64) (x8 : Int32) (x9 : Int32) : Option (Mem × Int64) :=
  bnd (x9 + 1) fun v1 =>
  k159 M x0 x1 x3 x4 x6 x8 v1
def F_X12_ahead_p159 (k205 : Mem → Nat → Int32 → Int32 → Int64 → Int64 → Int32 → Option (Mem × Int64)) : Nat → Mem → Nat → Int32 → Int32 → Int64 → Int64 → Int32 → Int32 → Option (Mem × Int64)
  | 0, _, _, _, _, _, _, _, _ => none
  | n + 1, M, x0, x1, x3, x4, x6, x8, x9 =>
    if (gI M 1302 x0) ≤ x9 then
    k205 M x0 x1 x3 x4 x6 x8
    else
    cl (F_X12_warmthOf M x0 x9 (0 : Int32)) fun M1 r2 =>
    if 0 ≤ (lg_cmp r2 x4) then
    (F_X12_ahead_p199 (F_X12_ahead_p159 k205 n)) M1 x0 x1 x3 x4 x6 x8 x9
    else
    cl (F_X12_warmthOf M1 x0 x9 (0 : Int32)) fun M3 r4 =>
    bnd (((gI M3 1301 x0) - (1 : Int32)).toInt64) fun v5 =>
    (F_X12_ahead_p199 (F_X12_ahead_p159 k205 n)) M3 x0 x1 x3 r4 v5 x8 x9
def F_X12_ahead_p205 (k146 : Mem → Nat → Int32 → Int32 → Int64 → Int64 → Int32 → Option (Mem × Int64)) (M : Mem) (x0 : Nat) (x1 : Int32) (x3 : Int32) (x4 : Int64) (x6 : Int64) (x8 : Int32) : Option (Mem × Int64) :=
  bnd (x8 + 1) fun v1 =>
  k146 M x0 x1 x3 x4 x6 v1
def F_X12_ahead_p146 (k211 : Mem → Nat → Int32 → Int64 → Int64 → Option (Mem × Int64)) : Nat → Mem → Nat → Int32 → Int32 → Int64 → Int64 → Int32 → Option (Mem × Int64)
  | 0, _, _, _, _, _, _, _ => none
  | n + 1, M, x0, x1, x3, x4, x6, x8 =>
    if x1 ≤ x8 then
    k211 M x0 x3 x4 x6
    else
    cl (F_X12_goes M x0) fun M1 _ =>
    (F_X12_ahead_p159 (F_X12_ahead_p205 (F_X12_ahead_p146 k211 n)) FU) M1 x0 x1 x3 x4 x6 x8 (0 : Int32)
def F_X12_ahead_p251 (M : Mem) (y0 : Int64) : Option (Mem × Int64) :=
  some (M, y0)
def F_X12_ahead_p211 (M : Mem) (x0 : Nat) (x3 : Int32) (x4 : Int64) (x6 : Int64) : Option (Mem × Int64) :=
  lr (gR M 1315 x0) (gK M) 21 fun b1 =>
  grd (inb (5 : Int32) (gN M b1)) <|
  lr (gR M 1353 x0) (gK M) 21 fun b2 =>
  grd (inb (5 : Int32) (gN M b2)) <|
  bnd ((gB M b1 (ixn (5 : Int32))) - (gB M b2 (ixn (5 : Int32)))) fun v3 =>
  cl (F_X12_laysBack M x0) fun M4 _ =>
  if x3 = 0 then
  F_X12_ahead_p251 M4 x4
  else
  if x3 = (1 : Int32) then
  F_X12_ahead_p251 M4 x6
  else
  F_X12_ahead_p251 M4 v3
def F_X12_ahead_p135 (M : Mem) (x0 : Nat) (x1 : Int32) (x3 : Int32) : Option (Mem × Int64) :=
  (F_X12_ahead_p146 F_X12_ahead_p211 FU) M x0 x1 x3 (9223372036854775807 : Int64) (0 : Int64) (0 : Int32)
def F_X12_ahead_p82 (M : Mem) (x0 : Nat) (x1 : Int32) (x2 : Int32) (x3 : Int32) : Option (Mem × Int64) :=
  cl (F_X12_keeps M x0) fun M1 _ =>
  (F_X12_ahead_p89 F_X12_ahead_p135 FU) M1 x0 x1 x2 x3 (0 : Int32)
def F_X12_ahead (M : Mem) (a0 : Nat) (a1 : Int32) (a2 : Int32) (a3 : Int32) : Option (Mem × Int64) :=
  if a2 < 0 then
  F_X12_ahead_p14 M a0
  else
  if a2 < ((1 : Int32) <<< ((gI M 1302 a0) &&& 31)) then
  cl (F_X12_in M (a3.toInt64) (0 : Int64) (2 : Int64)) fun M1 r2 =>
  if r2 = 0 then
  cl (F_X12_refuseLong M1 a0 (-2 : Int32)) fun M11 r12 =>
  some (M11, r12)
  else
  cl (F_X12_bars M1 a0 a1 (500 : Int32)) fun M3 r4 =>
  if r4 = 0 then
  if (gI M3 1302 a0) = 0 then
  if (2 : Int32) ≤ a3 then
  F_X12_ahead_p82 M3 a0 a1 a2 a3
  else
  cl (F_X12_refuseLong M3 a0 (-3 : Int32)) fun M5 r6 =>
  some (M5, r6)
  else
  F_X12_ahead_p82 M3 a0 a1 a2 a3
  else
  cl (F_X12_bars M3 a0 a1 (500 : Int32)) fun M7 r8 =>
  cl (F_X12_refuseLong M7 a0 r8) fun M9 r10 =>
  some (M9, r10)
  else
  F_X12_ahead_p14 M a0
abbrev P_X12_barred : MP := (RX12, cX12_barred, 4, (some .int), 0, 0)
def F_X12_barred_p40 (M : Mem) (y0 : Int32) : Option (Mem × Int32) :=
  some (M, y0)
def F_X12_barred (M : Mem) (a0 : Nat) (a1 : Int32) (a2 : Int32) (a3 : Int32) : Option (Mem × Int32) :=
  if 0 ≤ a1 then
  if a1 ≤ (23 : Int32) then
  if 0 ≤ a2 then
  if a2 ≤ a3 then
  F_X12_barred_p40 M (0 : Int32)
  else
  F_X12_barred_p40 M (-6 : Int32)
  else
  F_X12_barred_p40 M (-4 : Int32)
  else
  F_X12_barred_p40 M (-6 : Int32)
  else
  F_X12_barred_p40 M (-4 : Int32)
abbrev P_X12_boughtIn : MP := (RX12, cX12_boughtIn, 3, (some .long), 2, 50)
def F_X12_boughtIn (M : Mem) (a0 : Nat) (a1 : Int32) (a2 : Int32) : Option (Mem × Int64) :=
  cl (F_X12_needOf M a0 ((gI M 1301 a0) + a1)) fun M1 r2 =>
  some (M1, r2 + ((a2.toInt64) * ((gI M1 1335 a0).toInt64)))
abbrev P_X12_costIn : MP := (RX12, cX12_costIn, 3, (some .long), 3, 72)
def F_X12_costIn (M : Mem) (a0 : Nat) (a1 : Int32) (a2 : Int32) : Option (Mem × Int64) :=
  cl (F_X12_boughtIn M a0 a1 a2) fun M1 r2 =>
  lr (gR M1 1325 a0) (gK M1) 20 fun b3 =>
  grd (inb (((gI M1 1301 a0) + a1) - ((gI M1 1301 a0) + a1) / (24 : Int32) * (24 : Int32)) (gN M1 b3)) <|
  some (M1, (r2 * ((gA M1 b3 (ixn (((gI M1 1301 a0) + a1) - ((gI M1 1301 a0) + a1) / (24 : Int32) * (24 : Int32)))).toInt64)) / (100 : Int64))
abbrev P_X12_mayBe : MP := (RX12, cX12_mayBe, 4, (some .boolean), 3, 72)
def F_X12_mayBe_p32 (M : Mem) (y0 : Int32) : Option (Mem × Int32) :=
  grd (y0 = 0 ∨ y0 = 1) <| some (M, y0)
def F_X12_mayBe_p31 (M : Mem) : Option (Mem × Int32) :=
  F_X12_mayBe_p32 M (0 : Int32)
def F_X12_mayBe (M : Mem) (a0 : Nat) (a1 : Int32) (a2 : Int32) (a3 : Int32) : Option (Mem × Int32) :=
  cl (F_X12_in M ((a2 + a3).toInt64) (0 : Int64) ((gI M 1334 a0).toInt64)) fun M1 r2 =>
  if r2 = 0 then
  F_X12_mayBe_p31 M1
  else
  cl (F_X12_boughtIn M1 a0 a1 a3) fun M3 r4 =>
  if (lg_cmp r4 (0 : Int64)) < 0 then
  F_X12_mayBe_p31 M3
  else
  F_X12_mayBe_p32 M3 (1 : Int32)
abbrev P_X12_plans : MP := (RX12, cX12_plans, 8, none, 4, 95)
def F_X12_plans_p2 (k25 : Mem → Nat → Option (Mem × Unit)) : Nat → Mem → Nat → Int32 → Option (Mem × Unit)
  | 0, _, _, _ => none
  | n + 1, M, x0, x1 =>
    if (10 : Int32) ≤ x1 then
    k25 M x0
    else
    lr (gR M 1356 x0) (gK M) 21 fun b1 =>
    grd (inb ((240 : Int32) + x1) (gN M b1)) <| bnd (sB M b1 (ixn ((240 : Int32) + x1)) (0 : Int64)) fun M2 =>
    bnd (x1 + 1) fun v3 =>
    (F_X12_plans_p2 k25 n) M2 x0 v3
def F_X12_plans_p112 (k50 : Mem → Nat → Int32 → Int32 → Int64 → Int32 → Option (Mem × Unit)) (M : Mem) (x0 : Nat) (x1 : Int32) (x2 : Int32) (x5 : Int32) (y0 : Int64) : Option (Mem × Unit) :=
  bnd (x5 + 1) fun v1 =>
  k50 M x0 x1 x2 y0 v1
def F_X12_plans_p97 (k50 : Mem → Nat → Int32 → Int32 → Int64 → Int32 → Option (Mem × Unit)) (M : Mem) (x0 : Nat) (x1 : Int32) (x2 : Int32) (x3 : Int64) (x5 : Int32) (y0 : Int64) : Option (Mem × Unit) :=
  if 0 ≤ (lg_cmp y0 x3) then
  (F_X12_plans_p112 k50) M x0 x1 x2 x5 x3
  else
  (F_X12_plans_p112 k50) M x0 x1 x2 x5 y0
def F_X12_plans_p50 (k119 : Mem → Nat → Int32 → Int32 → Int64 → Option (Mem × Unit)) : Nat → Mem → Nat → Int32 → Int32 → Int64 → Int32 → Option (Mem × Unit)
  | 0, _, _, _, _, _, _ => none
  | n + 1, M, x0, x1, x2, x3, x5 =>
    if (3 : Int32) < x5 then
    k119 M x0 x1 x2 x3
    else
    cl (F_X12_mayBe M x0 x1 x2 x5) fun M1 r2 =>
    if r2 = 0 then
    (F_X12_plans_p97 (F_X12_plans_p50 k119 n)) M1 x0 x1 x2 x3 x5 (9223372036854775807 : Int64)
    else
    cl (F_X12_costIn M1 x0 x1 x5) fun M3 r4 =>
    lr (gR M3 1356 x0) (gK M3) 21 fun b5 =>
    grd (inb ((((10 : Int32) * (x1 + (1 : Int32))) + x2) + x5) (gN M3 b5)) <|
    (F_X12_plans_p97 (F_X12_plans_p50 k119 n)) M3 x0 x1 x2 x3 x5 (r4 + (gB M3 b5 (ixn ((((10 : Int32) * (x1 + (1 : Int32))) + x2) + x5))))
def F_X12_plans_p119 (k34 : Mem → Nat → Int32 → Int32 → Option (Mem × Unit)) (M : Mem) (x0 : Nat) (x1 : Int32) (x2 : Int32) (x3 : Int64) : Option (Mem × Unit) :=
  lr (gR M 1356 x0) (gK M) 21 fun b1 =>
  grd (inb (((10 : Int32) * x1) + x2) (gN M b1)) <| bnd (sB M b1 (ixn (((10 : Int32) * x1) + x2)) x3) fun M2 =>
  bnd (x2 + 1) fun v3 =>
  k34 M2 x0 x1 v3
def F_X12_plans_p34 (k137 : Mem → Nat → Int32 → Option (Mem × Unit)) : Nat → Mem → Nat → Int32 → Int32 → Option (Mem × Unit)
  | 0, _, _, _, _ => none
  | n + 1, M, x0, x1, x2 =>
    if (gI M 1334 x0) < x2 then
    k137 M x0 x1
    else
    (F_X12_plans_p50 (F_X12_plans_p119 (F_X12_plans_p34 k137 n)) FU) M x0 x1 x2 (9223372036854775807 : Int64) (-3 : Int32)
def F_X12_plans_p137 (k28 : Mem → Nat → Int32 → Option (Mem × Unit)) (M : Mem) (x0 : Nat) (x1 : Int32) : Option (Mem × Unit) :=
  bnd (x1 + (-1)) fun v1 =>
  k28 M x0 v1
def F_X12_plans_p28 (k143 : Mem → Nat → Option (Mem × Unit)) : Nat → Mem → Nat → Int32 → Option (Mem × Unit)
  | 0, _, _, _ => none
  | n + 1, M, x0, x1 =>
    if x1 < 0 then
    k143 M x0
    else
    (F_X12_plans_p34 (F_X12_plans_p137 (F_X12_plans_p28 k143 n)) FU) M x0 x1 (0 : Int32)
def F_X12_plans_p203 (k156 : Mem → Nat → Int32 → Int32 → Int32 → Option (Mem × Unit)) (M : Mem) (x0 : Nat) (x1 : Int32) (x2 : Int32) (x3 : Int32) : Option (Mem × Unit) :=
  bnd (x3 + 1) fun v1 =>
  k156 M x0 x1 x2 v1
def F_X12_plans_p156 (k209 : Mem → Nat → Int32 → Int32 → Int32 → Option (Mem × Unit)) : Nat → Mem → Nat → Int32 → Int32 → Int32 → Option (Mem × Unit)
  | 0, _, _, _, _, _ => none
  | n + 1, M, x0, x1, x2, x3 =>
    cl (F_X12_mayBe M x0 x2 x1 x3) fun M1 r2 =>
    if r2 = 0 then
    (F_X12_plans_p203 (F_X12_plans_p156 k209 n)) M1 x0 x1 x2 x3
    else
    cl (F_X12_costIn M1 x0 x2 x3) fun M3 r4 =>
    lr (gR M3 1356 x0) (gK M3) 21 fun b5 =>
    grd (inb ((((10 : Int32) * (x2 + (1 : Int32))) + x1) + x3) (gN M3 b5)) <|
    lr (gR M3 1356 x0) (gK M3) 21 fun b6 =>
    grd (inb (((10 : Int32) * x2) + x1) (gN M3 b6)) <|
    if (lg_cmp (r4 + (gB M3 b5 (ixn ((((10 : Int32) * (x2 + (1 : Int32))) + x1) + x3)))) (gB M3 b6 (ixn (((10 : Int32) * x2) + x1)))) = 0 then
    k209 M3 x0 x1 x2 x3
    else
    (F_X12_plans_p203 (F_X12_plans_p156 k209 n)) M3 x0 x1 x2 x3
def F_X12_plans_p209 (k147 : Mem → Nat → Int32 → Int32 → Option (Mem × Unit)) (M : Mem) (x0 : Nat) (x1 : Int32) (x2 : Int32) (x3 : Int32) : Option (Mem × Unit) :=
  lr (gR M 1357 x0) (gK M) 21 fun b1 =>
  cl (F_X12_boughtIn M x0 x2 x3) fun M2 r3 =>
  grd (inb x2 (gN M2 b1)) <| bnd (sB M2 b1 (ixn x2) r3) fun M4 =>
  bnd (x1 + x3) fun v5 =>
  bnd (x2 + 1) fun v6 =>
  k147 M4 x0 v5 v6
def F_X12_plans_p147 (k231 : Mem → Option (Mem × Unit)) : Nat → Mem → Nat → Int32 → Int32 → Option (Mem × Unit)
  | 0, _, _, _, _ => none
  | n + 1, M, x0, x1, x2 =>
    if (24 : Int32) ≤ x2 then
    k231 M
    else
    (F_X12_plans_p156 (F_X12_plans_p209 (F_X12_plans_p147 k231 n)) FU) M x0 x1 x2 (-3 : Int32)
def F_X12_plans_p231 (M : Mem) : Option (Mem × Unit) :=
  some (M, ())
def F_X12_plans_p143 (M : Mem) (x0 : Nat) : Option (Mem × Unit) :=
  (F_X12_plans_p147 F_X12_plans_p231 FU) M x0 (0 : Int32) (0 : Int32)
def F_X12_plans_p25 (M : Mem) (x0 : Nat) : Option (Mem × Unit) :=
  (F_X12_plans_p28 F_X12_plans_p143 FU) M x0 (23 : Int32)
def F_X12_plans (M : Mem) (a0 : Nat) : Option (Mem × Unit) :=
  (F_X12_plans_p2 F_X12_plans_p25 FU) M a0 (0 : Int32)
abbrev P_X12_best : MP := (RX12, cX12_best, 2, (some .long), 5, 122)
def F_X12_best_p44 (M : Mem) (y0 : Int64) : Option (Mem × Int64) :=
  some (M, y0)
def F_X12_best (M : Mem) (a0 : Nat) (a1 : Int32) : Option (Mem × Int64) :=
  cl (F_X12_in M (a1.toInt64) (0 : Int64) (24 : Int64)) fun M1 r2 =>
  if r2 = 0 then
  cl (F_X12_refuseLong M1 a0 (-2 : Int32)) fun M7 r8 =>
  some (M7, r8)
  else
  cl (F_X12_plans M1 a0) fun M3 _ =>
  if a1 = (24 : Int32) then
  lr (gR M3 1356 a0) (gK M3) 21 fun b6 =>
  grd (inb (0 : Int32) (gN M3 b6)) <|
  F_X12_best_p44 M3 (gB M3 b6 (ixn (0 : Int32)))
  else
  lr (gR M3 1357 a0) (gK M3) 21 fun b5 =>
  grd (inb a1 (gN M3 b5)) <|
  F_X12_best_p44 M3 (gB M3 b5 (ixn a1))
abbrev P_X12_bore : MP := (RX12, cX12_bore, 8, (some .int), 2, 44)
def F_X12_bore_p25 (M : Mem) (x0 : Nat) : Option (Mem × Int32) :=
  cl (F_X12_refuse M x0 (-4 : Int32)) fun M1 r2 =>
  some (M1, r2)
def F_X12_bore_p76 (M : Mem) (x0 : Nat) : Option (Mem × Int32) :=
  cl (F_X12_refuse M x0 (-6 : Int32)) fun M1 r2 =>
  some (M1, r2)
def F_X12_bore_p166 (k199 : Mem → Int32 → Option (Mem × Int32)) : Nat → Mem → Nat → Int32 → Int32 → Int32 → Option (Mem × Int32)
  | 0, _, _, _, _, _ => none
  | n + 1, M, x0, x2, x6, x7 =>
    if x2 ≤ x7 then
    k199 M x6
    else
    lr (gR M 1313 x0) (gK M) 21 fun b1 =>
    cl (F_X12_atFirst M x0 x6 x7) fun M2 r3 =>
    grd (inb (((8 : Int32) * x6) + x7) (gN M2 b1)) <| bnd (sB M2 b1 (ixn (((8 : Int32) * x6) + x7)) r3) fun M4 =>
    bnd (x7 + 1) fun v5 =>
    (F_X12_bore_p166 k199 n) M4 x0 x2 x6 v5
def F_X12_bore_p199 (M : Mem) (x6 : Int32) : Option (Mem × Int32) :=
  some (M, x6)
def F_X12_bore (M : Mem) (a0 : Nat) (a1 : Int32) (a2 : Int32) (a3 : Int32) (a4 : Int32) (a5 : Int32) : Option (Mem × Int32) :=
  if a1 < 0 then
  F_X12_bore_p25 M a0
  else
  if a2 < (1 : Int32) then
  F_X12_bore_p25 M a0
  else
  if a3 < (100 : Int32) then
  F_X12_bore_p25 M a0
  else
  if a4 < 0 then
  F_X12_bore_p25 M a0
  else
  if 0 ≤ a5 then
  if (9999 : Int32) < a1 then
  F_X12_bore_p76 M a0
  else
  if (8 : Int32) < a2 then
  F_X12_bore_p76 M a0
  else
  if (9999 : Int32) < a3 then
  F_X12_bore_p76 M a0
  else
  if (999 : Int32) < a4 then
  F_X12_bore_p76 M a0
  else
  if (99 : Int32) < a5 then
  F_X12_bore_p76 M a0
  else
  if (gI M 1302 a0) = (8 : Int32) then
  F_X12_bore_p76 M a0
  else
  bnd (gI M 1302 a0) fun v1 =>
  bnd (sI M 1302 a0 ((gI M 1302 a0) + (1 : Int32))) fun M2 =>
  lr (gR M2 1303 a0) (gK M2) 20 fun b3 =>
  grd (inb v1 (gN M2 b3)) <| bnd (sA M2 b3 (ixn v1) (a1 / (100 : Int32))) fun M4 =>
  lr (gR M4 1304 a0) (gK M4) 20 fun b5 =>
  grd (inb v1 (gN M4 b5)) <| bnd (sA M4 b5 (ixn v1) (a1 - a1 / (100 : Int32) * (100 : Int32))) fun M6 =>
  lr (gR M6 1305 a0) (gK M6) 20 fun b7 =>
  grd (inb v1 (gN M6 b7)) <| bnd (sA M6 b7 (ixn v1) a2) fun M8 =>
  lr (gR M8 1306 a0) (gK M8) 20 fun b9 =>
  grd (inb v1 (gN M8 b9)) <| bnd (sA M8 b9 (ixn v1) a3) fun M10 =>
  lr (gR M10 1307 a0) (gK M10) 20 fun b11 =>
  grd (inb v1 (gN M10 b11)) <| bnd (sA M10 b11 (ixn v1) a4) fun M12 =>
  lr (gR M12 1308 a0) (gK M12) 20 fun b13 =>
  grd (inb v1 (gN M12 b13)) <| bnd (sA M12 b13 (ixn v1) a5) fun M14 =>
  lr (gR M14 1311 a0) (gK M14) 22 fun b15 =>
  grd ((inb v1 (gN M14 b15)) ∧ ((1 : Int32) = 0 ∨ (1 : Int32) = 1)) <| bnd (sA M14 b15 (ixn v1) (1 : Int32)) fun M16 =>
  (F_X12_bore_p166 F_X12_bore_p199 FU) M16 a0 a2 v1 (0 : Int32)
  else
  F_X12_bore_p25 M a0
abbrev P_X12_cold : MP := (RX12, cX12_cold, 4, (some .int), 1, 21)
def F_X12_cold_p24 (M : Mem) (y0 : Int32) (y1 : Nat) (y2 : Int32) : Option (Mem × Int32) :=
  cl (F_X12_refuse M y1 y2) fun M1 r2 =>
  some (M1, y0 - r2)
def F_X12_cold_p10 (M : Mem) (x0 : Nat) (x1 : Int32) : Option (Mem × Int32) :=
  if 0 ≤ x1 then
  F_X12_cold_p24 M (1000000000 : Int32) x0 (-6 : Int32)
  else
  F_X12_cold_p24 M (1000000000 : Int32) x0 (-4 : Int32)
def F_X12_cold_p57 (M : Mem) (y0 : Int32) (y1 : Nat) (y2 : Int32) : Option (Mem × Int32) :=
  cl (F_X12_refuse M y1 y2) fun M1 r2 =>
  some (M1, y0 - r2)
def F_X12_cold_p41 (M : Mem) (x0 : Nat) (x2 : Int32) : Option (Mem × Int32) :=
  if (-40 : Int32) ≤ x2 then
  F_X12_cold_p57 M (1000000000 : Int32) x0 (-6 : Int32)
  else
  F_X12_cold_p57 M (1000000000 : Int32) x0 (-4 : Int32)
def F_X12_cold (M : Mem) (a0 : Nat) (a1 : Int32) (a2 : Int32) : Option (Mem × Int32) :=
  if a1 < 0 then
  F_X12_cold_p10 M a0 a1
  else
  if a1 ≤ (11 : Int32) then
  if a2 < (-40 : Int32) then
  F_X12_cold_p41 M a0 a2
  else
  if a2 ≤ (40 : Int32) then
  lr (gR M 1321 a0) (gK M) 20 fun b1 =>
  grd (inb a1 (gN M b1)) <|
  bnd (gA M b1 (ixn a1)) fun v2 =>
  lr (gR M 1321 a0) (gK M) 20 fun b3 =>
  grd (inb a1 (gN M b3)) <| bnd (sA M b3 (ixn a1) a2) fun M4 =>
  some (M4, v2)
  else
  F_X12_cold_p41 M a0 a2
  else
  F_X12_cold_p10 M a0 a1
abbrev P_X12_here : MP := (RX12, cX12_here, 1, (some .int), 0, 0)
def F_X12_here_p24 (M : Mem) (y0 : Int32) : Option (Mem × Int32) :=
  some (M, y0)
def F_X12_here (M : Mem) (a0 : Nat) : Option (Mem × Int32) :=
  if (gI M 1328 a0) ≤ (gI M 1341 a0) then
  F_X12_here_p24 M (-1 : Int32)
  else
  lr (gR M 1327 a0) (gK M) 20 fun b1 =>
  grd (inb (gI M 1341 a0) (gN M b1)) <|
  F_X12_here_p24 M (gA M b1 (ixn (gI M 1341 a0)))
abbrev P_X12_puts : MP := (RX12, cX12_puts, 2, none, 0, 0)
def F_X12_puts (M : Mem) (a0 : Nat) (a1 : Int32) : Option (Mem × Unit) :=
  lr (gR M 1333 a0) (gK M) 20 fun b1 =>
  grd (inb (((62 : Int32) * (gI M 1329 a0)) + (gI M 1342 a0)) (gN M b1)) <| bnd (sA M b1 (ixn (((62 : Int32) * (gI M 1329 a0)) + (gI M 1342 a0))) a1) fun M2 =>
  bnd (sI M2 1342 a0 ((gI M2 1342 a0) + (1 : Int32))) fun M3 =>
  some (M3, ())
def P_X12_sum (n : Nat) : MP := (RX12, cX12_sum, 3, none, 20 + 2 * n, 500 + 60 * n)
def F_X12_sum_p46 (rec : Nat → Mem → Nat → Int32 → Option (Mem × Unit)) (k5 : Mem → Nat → Int32 → Option (Mem × Unit)) (M : Mem) (x0 : Nat) (x1 : Int32) (y0 : Int32) : Option (Mem × Unit) :=
  bnd (sI M 1341 x0 ((gI M 1341 x0) + (1 : Int32))) fun M1 =>
  cl (rec 1 M1 x0 x1) fun M2 _ =>
  cl (F_X12_puts M2 x0 y0) fun M4 _ =>
  k5 M4 x0 x1
def F_X12_sum_p30 (rec : Nat → Mem → Nat → Int32 → Option (Mem × Unit)) (k5 : Mem → Nat → Int32 → Option (Mem × Unit)) (M : Mem) (x0 : Nat) (x1 : Int32) : Option (Mem × Unit) :=
  cl (F_X12_here M x0) fun M1 r2 =>
  if r2 = (43 : Int32) then
  (F_X12_sum_p46 rec k5) M1 x0 x1 (20 : Int32)
  else
  (F_X12_sum_p46 rec k5) M1 x0 x1 (21 : Int32)
def F_X12_sum_p5 (rec : Nat → Mem → Nat → Int32 → Option (Mem × Unit)) (k70 : Mem → Option (Mem × Unit)) : Nat → Mem → Nat → Int32 → Option (Mem × Unit)
  | 0, _, _, _ => none
  | n + 1, M, x0, x1 =>
    if (gI M 1343 x0) = 0 then
    cl (F_X12_here M x0) fun M1 r2 =>
    if r2 = (43 : Int32) then
    (F_X12_sum_p30 rec (F_X12_sum_p5 rec k70 n)) M1 x0 x1
    else
    cl (F_X12_here M1 x0) fun M3 r4 =>
    if r4 = (45 : Int32) then
    (F_X12_sum_p30 rec (F_X12_sum_p5 rec k70 n)) M3 x0 x1
    else
    k70 M3
    else
    k70 M
def F_X12_sum_p70 (rec : Nat → Mem → Nat → Int32 → Option (Mem × Unit)) (M : Mem) : Option (Mem × Unit) :=
  some (M, ())
def B_X12_sum (rec : Nat → Mem → Nat → Int32 → Option (Mem × Unit)) (M : Mem) (a0 : Nat) (a1 : Int32) : Option (Mem × Unit) :=
  cl (rec 1 M a0 a1) fun M1 _ =>
  (F_X12_sum_p5 rec (F_X12_sum_p70 rec) FU) M1 a0 a1
def P_X12_term (n : Nat) : MP := (RX12, cX12_term, 3, none, 20 + 2 * n, 500 + 60 * n)
def F_X12_term_p46 (rec : Nat → Mem → Nat → Int32 → Option (Mem × Unit)) (k5 : Mem → Nat → Int32 → Option (Mem × Unit)) (M : Mem) (x0 : Nat) (x1 : Int32) (y0 : Int32) : Option (Mem × Unit) :=
  bnd (sI M 1341 x0 ((gI M 1341 x0) + (1 : Int32))) fun M1 =>
  cl (rec 2 M1 x0 x1) fun M2 _ =>
  cl (F_X12_puts M2 x0 y0) fun M4 _ =>
  k5 M4 x0 x1
def F_X12_term_p30 (rec : Nat → Mem → Nat → Int32 → Option (Mem × Unit)) (k5 : Mem → Nat → Int32 → Option (Mem × Unit)) (M : Mem) (x0 : Nat) (x1 : Int32) : Option (Mem × Unit) :=
  cl (F_X12_here M x0) fun M1 r2 =>
  if r2 = (42 : Int32) then
  (F_X12_term_p46 rec k5) M1 x0 x1 (22 : Int32)
  else
  (F_X12_term_p46 rec k5) M1 x0 x1 (23 : Int32)
def F_X12_term_p5 (rec : Nat → Mem → Nat → Int32 → Option (Mem × Unit)) (k70 : Mem → Option (Mem × Unit)) : Nat → Mem → Nat → Int32 → Option (Mem × Unit)
  | 0, _, _, _ => none
  | n + 1, M, x0, x1 =>
    if (gI M 1343 x0) = 0 then
    cl (F_X12_here M x0) fun M1 r2 =>
    if r2 = (42 : Int32) then
    (F_X12_term_p30 rec (F_X12_term_p5 rec k70 n)) M1 x0 x1
    else
    cl (F_X12_here M1 x0) fun M3 r4 =>
    if r4 = (47 : Int32) then
    (F_X12_term_p30 rec (F_X12_term_p5 rec k70 n)) M3 x0 x1
    else
    k70 M3
    else
    k70 M
def F_X12_term_p70 (rec : Nat → Mem → Nat → Int32 → Option (Mem × Unit)) (M : Mem) : Option (Mem × Unit) :=
  some (M, ())
def B_X12_term (rec : Nat → Mem → Nat → Int32 → Option (Mem × Unit)) (M : Mem) (a0 : Nat) (a1 : Int32) : Option (Mem × Unit) :=
  cl (rec 2 M a0 a1) fun M1 _ =>
  (F_X12_term_p5 rec (F_X12_term_p70 rec) FU) M1 a0 a1
def P_X12_unit (n : Nat) : MP := (RX12, cX12_unit, 5, none, 20 + 2 * n, 500 + 60 * n)
def F_X12_unit_p32 (rec : Nat → Mem → Nat → Int32 → Option (Mem × Unit)) (k84 : Mem → Nat → Int32 → Option (Mem × Unit)) : Nat → Mem → Nat → Int32 → Int32 → Option (Mem × Unit)
  | 0, _, _, _, _ => none
  | n + 1, M, x0, x3, x4 =>
    if (5 : Int32) ≤ x4 then
    k84 M x0 x3
    else
    cl (F_X12_here M x0) fun M1 r2 =>
    cl (F_X12_in M1 (r2.toInt64) (48 : Int64) (57 : Int64)) fun M3 r4 =>
    if r4 = 0 then
    k84 M3 x0 x3
    else
    cl (F_X12_here M3 x0) fun M5 r6 =>
    bnd ((((10 : Int32) * x3) + r6) - (48 : Int32)) fun v7 =>
    bnd (sI M5 1341 x0 ((gI M5 1341 x0) + (1 : Int32))) fun M8 =>
    bnd (x4 + 1) fun v9 =>
    (F_X12_unit_p32 rec k84 n) M8 x0 v7 v9
def F_X12_unit_p185 (rec : Nat → Mem → Nat → Int32 → Option (Mem × Unit)) (M : Mem) : Option (Mem × Unit) :=
  some (M, ())
def F_X12_unit_p84 (rec : Nat → Mem → Nat → Int32 → Option (Mem × Unit)) (M : Mem) (x0 : Nat) (x3 : Int32) : Option (Mem × Unit) :=
  cl (F_X12_puts M x0 ((1000 : Int32) + x3)) fun M1 _ =>
  (F_X12_unit_p185 rec) M1
def F_X12_unit_p136 (rec : Nat → Mem → Nat → Int32 → Option (Mem × Unit)) (k158 : Mem → Nat → Int32 → Option (Mem × Unit)) : Nat → Mem → Nat → Int32 → Int32 → Option (Mem × Unit)
  | 0, _, _, _, _ => none
  | n + 1, M, x0, x2, x3 =>
    if (9 : Int32) ≤ x3 then
    k158 M x0 x3
    else
    lr (gR M 1340 x0) (gK M) 20 fun b1 =>
    grd (inb x3 (gN M b1)) <|
    if (gA M b1 (ixn x3)) = x2 then
    k158 M x0 x3
    else
    bnd (x3 + 1) fun v2 =>
    (F_X12_unit_p136 rec k158 n) M x0 x2 v2
def F_X12_unit_p158 (rec : Nat → Mem → Nat → Int32 → Option (Mem × Unit)) (M : Mem) (x0 : Nat) (x3 : Int32) : Option (Mem × Unit) :=
  if x3 = (9 : Int32) then
  grd ((1 : Int32) = 0 ∨ (1 : Int32) = 1) <| bnd (sI M 1343 x0 (1 : Int32)) fun M4 =>
  some (M4, ())
  else
  bnd (sI M 1341 x0 ((gI M 1341 x0) + (1 : Int32))) fun M1 =>
  cl (F_X12_puts M1 x0 x3) fun M2 _ =>
  (F_X12_unit_p185 rec) M2
def F_X12_unit_p134 (rec : Nat → Mem → Nat → Int32 → Option (Mem × Unit)) (M : Mem) (x0 : Nat) (x2 : Int32) : Option (Mem × Unit) :=
  (F_X12_unit_p136 rec (F_X12_unit_p158 rec) FU) M x0 x2 (0 : Int32)
def B_X12_unit (rec : Nat → Mem → Nat → Int32 → Option (Mem × Unit)) (M : Mem) (a0 : Nat) (a1 : Int32) : Option (Mem × Unit) :=
  if (gI M 1343 a0) = 0 then
  cl (F_X12_here M a0) fun M1 r2 =>
  cl (F_X12_in M1 (r2.toInt64) (48 : Int64) (57 : Int64)) fun M3 r4 =>
  if r4 = 0 then
  if r2 = (40 : Int32) then
  if (5 : Int32) ≤ a1 then
  (F_X12_unit_p134 rec) M3 a0 r2
  else
  bnd (sI M3 1341 a0 ((gI M3 1341 a0) + (1 : Int32))) fun M5 =>
  cl (rec 0 M5 a0 (a1 + (1 : Int32))) fun M6 _ =>
  cl (rec 3 M6 a0 (a1 + (1 : Int32))) fun M8 _ =>
  (F_X12_unit_p185 rec) M8
  else
  (F_X12_unit_p134 rec) M3 a0 r2
  else
  (F_X12_unit_p32 rec (F_X12_unit_p84 rec) FU) M3 a0 (0 : Int32) (0 : Int32)
  else
  some (M, ())
def P_X12_compares (n : Nat) : MP := (RX12, cX12_compares, 3, none, 20 + 2 * n, 500 + 60 * n)
def F_X12_compares_p89 (rec : Nat → Mem → Nat → Int32 → Option (Mem × Unit)) (M : Mem) (x0 : Nat) : Option (Mem × Unit) :=
  grd ((1 : Int32) = 0 ∨ (1 : Int32) = 1) <| bnd (sI M 1343 x0 (1 : Int32)) fun M1 =>
  some (M1, ())
def F_X12_compares_p73 (rec : Nat → Mem → Nat → Int32 → Option (Mem × Unit)) (M : Mem) (x0 : Nat) : Option (Mem × Unit) :=
  if (gI M 1343 x0) = 0 then
  cl (F_X12_here M x0) fun M1 r2 =>
  if r2 = (41 : Int32) then
  bnd (sI M1 1341 x0 ((gI M1 1341 x0) + (1 : Int32))) fun M3 =>
  some (M3, ())
  else
  (F_X12_compares_p89 rec) M1 x0
  else
  (F_X12_compares_p89 rec) M x0
def F_X12_compares_p70 (rec : Nat → Mem → Nat → Int32 → Option (Mem × Unit)) (M : Mem) (x0 : Nat) (y0 : Nat) (y1 : Int32) : Option (Mem × Unit) :=
  cl (F_X12_puts M y0 y1) fun M1 _ =>
  (F_X12_compares_p73 rec) M1 x0
def F_X12_compares_p30 (rec : Nat → Mem → Nat → Int32 → Option (Mem × Unit)) (M : Mem) (x0 : Nat) (x1 : Int32) (x2 : Int32) : Option (Mem × Unit) :=
  bnd (sI M 1341 x0 ((gI M 1341 x0) + (1 : Int32))) fun M1 =>
  cl (rec 0 M1 x0 x1) fun M2 _ =>
  if x2 = (60 : Int32) then
  (F_X12_compares_p70 rec) M2 x0 x0 (24 : Int32)
  else
  if x2 = (61 : Int32) then
  (F_X12_compares_p70 rec) M2 x0 x0 (25 : Int32)
  else
  (F_X12_compares_p70 rec) M2 x0 x0 (26 : Int32)
def B_X12_compares (rec : Nat → Mem → Nat → Int32 → Option (Mem × Unit)) (M : Mem) (a0 : Nat) (a1 : Int32) : Option (Mem × Unit) :=
  cl (F_X12_here M a0) fun M1 r2 =>
  if (gI M1 1343 a0) = 0 then
  if r2 = (60 : Int32) then
  (F_X12_compares_p30 rec) M1 a0 a1 r2
  else
  if r2 = (61 : Int32) then
  (F_X12_compares_p30 rec) M1 a0 a1 r2
  else
  if r2 = (62 : Int32) then
  (F_X12_compares_p30 rec) M1 a0 a1 r2
  else
  (F_X12_compares_p73 rec) M1 a0
  else
  (F_X12_compares_p73 rec) M1 a0
def F_X12_g : Nat → Nat → Mem → Nat → Int32 → Option (Mem × Unit)
  | 0, _, _, _, _ => none
  | n + 1, t, M, x, d => if t = 0 then B_X12_sum (F_X12_g n) M x d else if t = 1 then B_X12_term (F_X12_g n) M x d else if t = 2 then B_X12_unit (F_X12_g n) M x d else B_X12_compares (F_X12_g n) M x d
abbrev P_X12_count : MP := (RX12, cX12_count, 4, (some .int), 1, 25)
def F_X12_count_p87 (k64 : Mem → Nat → Int32 → Int32 → Option (Mem × Int32)) (M : Mem) (x0 : Nat) (x3 : Int32) (y0 : Int32) (y1 : Int32) : Option (Mem × Int32) :=
  bnd (y0 + y1) fun v1 =>
  bnd (x3 + 1) fun v2 =>
  k64 M x0 v1 v2
def F_X12_count_p64 (k95 : Mem → Int32 → Option (Mem × Int32)) : Nat → Mem → Nat → Int32 → Int32 → Option (Mem × Int32)
  | 0, _, _, _, _ => none
  | n + 1, M, x0, x2, x3 =>
    if (gI M 1302 x0) ≤ x3 then
    k95 M x2
    else
    lr (gR M 1311 x0) (gK M) 22 fun b1 =>
    grd (inb x3 (gN M b1)) <|
    if (gA M b1 (ixn x3)) = 0 then
    (F_X12_count_p87 (F_X12_count_p64 k95 n)) M x0 x3 x2 (0 : Int32)
    else
    (F_X12_count_p87 (F_X12_count_p64 k95 n)) M x0 x3 x2 (1 : Int32)
def F_X12_count_p95 (M : Mem) (x2 : Int32) : Option (Mem × Int32) :=
  some (M, x2)
def F_X12_count_p133 (k104 : Mem → Nat → Int32 → Int32 → Option (Mem × Int32)) (M : Mem) (x0 : Nat) (x3 : Int32) (y0 : Int32) (y1 : Int32) : Option (Mem × Int32) :=
  bnd (y0 + y1) fun v1 =>
  bnd (x3 + 1) fun v2 =>
  k104 M x0 v1 v2
def F_X12_count_p104 (k141 : Mem → Int32 → Option (Mem × Int32)) : Nat → Mem → Nat → Int32 → Int32 → Option (Mem × Int32)
  | 0, _, _, _, _ => none
  | n + 1, M, x0, x2, x3 =>
    if (gI M 1316 x0) ≤ x3 then
    k141 M x2
    else
    cl (F_X12_isJoined M x0 x3 ((gI M 1301 x0) / (24 : Int32))) fun M1 r2 =>
    if r2 = 0 then
    (F_X12_count_p133 (F_X12_count_p104 k141 n)) M1 x0 x3 x2 (0 : Int32)
    else
    (F_X12_count_p133 (F_X12_count_p104 k141 n)) M1 x0 x3 x2 (1 : Int32)
def F_X12_count_p141 (M : Mem) (x2 : Int32) : Option (Mem × Int32) :=
  some (M, x2)
def F_X12_count_p191 (M : Mem) (y0 : Int32) : Option (Mem × Int32) :=
  some (M, y0)
def F_X12_count (M : Mem) (a0 : Nat) (a1 : Int32) : Option (Mem × Int32) :=
  swi a1 0 [some (M, gI M 1301 a0),
  some (M, gI M 1302 a0),
  (F_X12_count_p64 F_X12_count_p95 FU) M a0 (0 : Int32) (0 : Int32),
  some (M, gI M 1316 a0),
  (F_X12_count_p104 F_X12_count_p141 FU) M a0 (0 : Int32) (0 : Int32),
  some (M, gI M 1322 a0),
  some (M, gI M 1329 a0),
  some (M, gI M 1328 a0),
  some (M, gI M 1336 a0)] (
  cl (F_X12_in M (a1.toInt64) (11 : Int64) (16 : Int64)) fun M1 r2 =>
  if r2 = 0 then
  F_X12_count_p191 M1 (-9 : Int32)
  else
  lr (gR M1 1300 a0) (gK M1) 20 fun b3 =>
  grd (inb (a1 - (10 : Int32)) (gN M1 b3)) <|
  F_X12_count_p191 M1 (gA M1 b3 (ixn (a1 - (10 : Int32)))))
abbrev P_X12_feed : MP := (RX12, cX12_feed, 5, (some .int), 1, 21)
def F_X12_feed_p29 (M : Mem) (x0 : Nat) : Option (Mem × Int32) :=
  cl (F_X12_refuse M x0 (-6 : Int32)) fun M1 r2 =>
  some (M1, r2)
def F_X12_feed_p39 (k82 : Mem → Nat → Option (Mem × Int32)) : Nat → Mem → Nat → Int32 → Int64 → Int32 → Option (Mem × Int32)
  | 0, _, _, _, _, _ => none
  | n + 1, M, x0, x1, x2, x4 =>
    if x1 ≤ x4 then
    k82 M x0
    else
    lr (gR M 1327 x0) (gK M) 20 fun b1 =>
    grd (inb (gI M 1328 x0) (gN M b1)) <| bnd (sA M b1 (ixn (gI M 1328 x0)) (((x2 >>> (((8 : Int32) * x4).toInt64 &&& 63)) &&& (255 : Int64)).toInt32)) fun M2 =>
    bnd (sI M2 1328 x0 ((gI M2 1328 x0) + (1 : Int32))) fun M3 =>
    bnd (x4 + 1) fun v4 =>
    (F_X12_feed_p39 k82 n) M3 x0 x1 x2 v4
def F_X12_feed_p82 (M : Mem) (x0 : Nat) : Option (Mem × Int32) :=
  some (M, gI M 1328 x0)
def F_X12_feed (M : Mem) (a0 : Nat) (a1 : Int32) (a2 : Int64) : Option (Mem × Int32) :=
  if (1 : Int32) ≤ a1 then
  if (8 : Int32) < a1 then
  F_X12_feed_p29 M a0
  else
  if ((gI M 1328 a0) + a1) ≤ (60 : Int32) then
  (F_X12_feed_p39 F_X12_feed_p82 FU) M a0 a1 a2 (0 : Int32)
  else
  F_X12_feed_p29 M a0
  else
  cl (F_X12_refuse M a0 (-4 : Int32)) fun M1 r2 =>
  some (M1, r2)
abbrev P_X12_many : MP := (RX12, cX12_many, 3, (some .int), 0, 0)
def F_X12_many_p4 (k24 : Mem → Int32 → Option (Mem × Int32)) : Nat → Mem → Int32 → Int32 → Int32 → Option (Mem × Int32)
  | 0, _, _, _, _ => none
  | n + 1, M, x0, x1, x2 =>
    if (8 : Int32) ≤ x2 then
    k24 M x1
    else
    bnd (x1 + ((x0 >>> (x2 &&& 31)) &&& (1 : Int32))) fun v1 =>
    bnd (x2 + 1) fun v2 =>
    (F_X12_many_p4 k24 n) M x0 v1 v2
def F_X12_many_p24 (M : Mem) (x1 : Int32) : Option (Mem × Int32) :=
  some (M, x1)
def F_X12_many (M : Mem) (a0 : Int32) : Option (Mem × Int32) :=
  (F_X12_many_p4 F_X12_many_p24 FU) M a0 (0 : Int32) (0 : Int32)
abbrev P_X12_few : MP := (RX12, cX12_few, 6, (some .int), 5, 131)
def F_X12_few_p9 (M : Mem) (x0 : Nat) : Option (Mem × Int32) :=
  cl (F_X12_refuse M x0 (-4 : Int32)) fun M1 r2 =>
  some (M1, r2)
def F_X12_few_p28 (M : Mem) (x0 : Nat) : Option (Mem × Int32) :=
  cl (F_X12_refuse M x0 (-6 : Int32)) fun M1 r2 =>
  some (M1, r2)
def F_X12_few_p108 (k77 : Mem → Nat → Int32 → Int32 → Int32 → Int32 → Int32 → Option (Mem × Int32)) (M : Mem) (x0 : Nat) (x1 : Int32) (x2 : Int32) (x3 : Int32) (x4 : Int32) (x5 : Int32) (y0 : Nat) (y1 : Int32) (y2 : Int32) : Option (Mem × Int32) :=
  grd ((inb y1 (gN M y0)) ∧ (y2 = 0 ∨ y2 = 1)) <| bnd (sA M y0 (ixn y1) y2) fun M1 =>
  bnd (x5 + 1) fun v2 =>
  k77 M1 x0 x1 x2 x3 x4 v2
def F_X12_few_p77 (k115 : Mem → Nat → Int32 → Int32 → Int32 → Int32 → Option (Mem × Int32)) : Nat → Mem → Nat → Int32 → Int32 → Int32 → Int32 → Int32 → Option (Mem × Int32)
  | 0, _, _, _, _, _, _, _ => none
  | n + 1, M, x0, x1, x2, x3, x4, x5 =>
    if (gI M 1302 x0) ≤ x5 then
    k115 M x0 x1 x2 x3 x4
    else
    lr (gR M 1311 x0) (gK M) 22 fun b1 =>
    if ((x4 >>> (x5 &&& 31)) &&& (1 : Int32)) = (1 : Int32) then
    (F_X12_few_p108 (F_X12_few_p77 k115 n)) M x0 x1 x2 x3 x4 x5 b1 x5 (1 : Int32)
    else
    (F_X12_few_p108 (F_X12_few_p77 k115 n)) M x0 x1 x2 x3 x4 x5 b1 x5 (0 : Int32)
def F_X12_few_p118 (k134 : Mem → Nat → Int32 → Int32 → Int32 → Int32 → Option (Mem × Int32)) : Nat → Mem → Nat → Int32 → Int32 → Int32 → Int32 → Int32 → Option (Mem × Int32)
  | 0, _, _, _, _, _, _, _ => none
  | n + 1, M, x0, x1, x2, x3, x4, x5 =>
    if x1 ≤ x5 then
    k134 M x0 x1 x2 x3 x4
    else
    cl (F_X12_goes M x0) fun M1 _ =>
    bnd (x5 + 1) fun v3 =>
    (F_X12_few_p118 k134 n) M1 x0 x1 x2 x3 x4 v3
def F_X12_few_p164 (k45 : Mem → Nat → Int32 → Int32 → Int32 → Int32 → Option (Mem × Int32)) (M : Mem) (x0 : Nat) (x1 : Int32) (x2 : Int32) (x3 : Int32) (x4 : Int32) : Option (Mem × Int32) :=
  bnd (x4 + 1) fun v1 =>
  k45 M x0 x1 x2 x3 v1
def F_X12_few_p159 (k45 : Mem → Nat → Int32 → Int32 → Int32 → Int32 → Option (Mem × Int32)) (M : Mem) (x0 : Nat) (x1 : Int32) (x2 : Int32) (x4 : Int32) (y0 : Int32) : Option (Mem × Int32) :=
  cl (F_X12_laysBack M x0) fun M1 _ =>
  (F_X12_few_p164 k45) M1 x0 x1 x2 y0 x4
def F_X12_few_p134 (k45 : Mem → Nat → Int32 → Int32 → Int32 → Int32 → Option (Mem × Int32)) (M : Mem) (x0 : Nat) (x1 : Int32) (x2 : Int32) (x3 : Int32) (x4 : Int32) : Option (Mem × Int32) :=
  lr (gR M 1315 x0) (gK M) 21 fun b1 =>
  grd (inb (5 : Int32) (gN M b1)) <|
  lr (gR M 1353 x0) (gK M) 21 fun b2 =>
  grd (inb (5 : Int32) (gN M b2)) <|
  if 0 < (lg_cmp ((gB M b1 (ixn (5 : Int32))) - (gB M b2 (ixn (5 : Int32)))) (x2.toInt64)) then
  (F_X12_few_p159 k45) M x0 x1 x2 x4 x3
  else
  (F_X12_few_p159 k45) M x0 x1 x2 x4 x4
def F_X12_few_p115 (k45 : Mem → Nat → Int32 → Int32 → Int32 → Int32 → Option (Mem × Int32)) (M : Mem) (x0 : Nat) (x1 : Int32) (x2 : Int32) (x3 : Int32) (x4 : Int32) : Option (Mem × Int32) :=
  (F_X12_few_p118 (F_X12_few_p134 k45) FU) M x0 x1 x2 x3 x4 (0 : Int32)
def F_X12_few_p74 (k45 : Mem → Nat → Int32 → Int32 → Int32 → Int32 → Option (Mem × Int32)) (M : Mem) (x0 : Nat) (x1 : Int32) (x2 : Int32) (x3 : Int32) (x4 : Int32) : Option (Mem × Int32) :=
  (F_X12_few_p77 (F_X12_few_p115 k45) FU) M x0 x1 x2 x3 x4 (0 : Int32)
def F_X12_few_p45 (k170 : Mem → Int32 → Option (Mem × Int32)) : Nat → Mem → Nat → Int32 → Int32 → Int32 → Int32 → Option (Mem × Int32)
  | 0, _, _, _, _, _, _ => none
  | n + 1, M, x0, x1, x2, x3, x4 =>
    if ((1 : Int32) <<< ((gI M 1302 x0) &&& 31)) ≤ x4 then
    k170 M x3
    else
    if x3 = (-9 : Int32) then
    (F_X12_few_p74 (F_X12_few_p45 k170 n)) M x0 x1 x2 x3 x4
    else
    cl (F_X12_many M x4) fun M1 r2 =>
    cl (F_X12_many M1 x3) fun M3 r4 =>
    if r4 ≤ r2 then
    (F_X12_few_p164 (F_X12_few_p45 k170 n)) M3 x0 x1 x2 x3 x4
    else
    (F_X12_few_p74 (F_X12_few_p45 k170 n)) M3 x0 x1 x2 x3 x4
def F_X12_few_p170 (M : Mem) (x3 : Int32) : Option (Mem × Int32) :=
  some (M, x3)
def F_X12_few (M : Mem) (a0 : Nat) (a1 : Int32) (a2 : Int32) : Option (Mem × Int32) :=
  if a1 < (1 : Int32) then
  F_X12_few_p9 M a0
  else
  if 0 ≤ a2 then
  if (100 : Int32) < a1 then
  F_X12_few_p28 M a0
  else
  if a2 ≤ (1000000000 : Int32) then
  cl (F_X12_keeps M a0) fun M1 _ =>
  (F_X12_few_p45 F_X12_few_p170 FU) M1 a0 a1 a2 (-9 : Int32) (0 : Int32)
  else
  F_X12_few_p28 M a0
  else
  F_X12_few_p9 M a0
abbrev P_X12_isBore : MP := (RX12, cX12_isBore, 2, (some .boolean), 1, 25)
def F_X12_isBore (M : Mem) (a0 : Nat) (a1 : Int32) : Option (Mem × Int32) :=
  cl (F_X12_in M (a1.toInt64) (0 : Int64) (((gI M 1302 a0) - (1 : Int32)).toInt64)) fun M1 r2 =>
  grd (r2 = 0 ∨ r2 = 1) <| some (M1, r2)
abbrev P_X12_frozen : MP := (RX12, cX12_frozen, 2, (some .int), 2, 46)
def F_X12_frozen_p32 (M : Mem) (y0 : Int32) : Option (Mem × Int32) :=
  some (M, y0)
def F_X12_frozen (M : Mem) (a0 : Nat) (a1 : Int32) : Option (Mem × Int32) :=
  cl (F_X12_isBore M a0 a1) fun M1 r2 =>
  if r2 = 0 then
  cl (F_X12_refuse M1 a0 (-1 : Int32)) fun M5 r6 =>
  F_X12_frozen_p32 M5 r6
  else
  cl (F_X12_warmthOf M1 a0 a1 (0 : Int32)) fun M3 r4 =>
  if (lg_cmp r4 (0 : Int64)) ≤ 0 then
  F_X12_frozen_p32 M3 (1 : Int32)
  else
  F_X12_frozen_p32 M3 (0 : Int32)
abbrev P_X12_given : MP := (RX12, cX12_given, 2, (some .long), 2, 46)
def F_X12_given_p22 (M : Mem) (y0 : Int64) : Option (Mem × Int64) :=
  some (M, y0)
def F_X12_given (M : Mem) (a0 : Nat) (a1 : Int32) : Option (Mem × Int64) :=
  cl (F_X12_isBore M a0 a1) fun M1 r2 =>
  if r2 = 0 then
  cl (F_X12_refuseLong M1 a0 (-1 : Int32)) fun M3 r4 =>
  F_X12_given_p22 M3 r4
  else
  lr (gR M1 1314 a0) (gK M1) 21 fun b5 =>
  grd (inb a1 (gN M1 b5)) <|
  F_X12_given_p22 M1 (gB M1 b5 (ixn a1))
abbrev P_X12_givenBy : MP := (RX12, cX12_givenBy, 6, (some .long), 5, 131)
def F_X12_givenBy_p18 (k34 : Mem → Nat → Int32 → Option (Mem × Int64)) : Nat → Mem → Nat → Int32 → Int32 → Int32 → Option (Mem × Int64)
  | 0, _, _, _, _, _ => none
  | n + 1, M, x0, x1, x3, x4 =>
    if x3 ≤ x4 then
    k34 M x0 x1
    else
    cl (F_X12_goes M x0) fun M1 _ =>
    bnd (x4 + 1) fun v3 =>
    (F_X12_givenBy_p18 k34 n) M1 x0 x1 x3 v3
def F_X12_givenBy_p34 (M : Mem) (x0 : Nat) (x1 : Int32) : Option (Mem × Int64) :=
  lr (gR M 1314 x0) (gK M) 21 fun b1 =>
  grd (inb x1 (gN M b1)) <|
  lr (gR M 1352 x0) (gK M) 21 fun b2 =>
  grd (inb x1 (gN M b2)) <|
  bnd ((gB M b1 (ixn x1)) - (gB M b2 (ixn x1))) fun v3 =>
  cl (F_X12_laysBack M x0) fun M4 _ =>
  some (M4, v3)
def F_X12_givenBy_p15 (M : Mem) (x0 : Nat) (x1 : Int32) (x3 : Int32) : Option (Mem × Int64) :=
  (F_X12_givenBy_p18 F_X12_givenBy_p34 FU) M x0 x1 x3 (0 : Int32)
def F_X12_givenBy (M : Mem) (a0 : Nat) (a1 : Int32) (a2 : Int32) (a3 : Int32) : Option (Mem × Int64) :=
  cl (F_X12_keeps M a0) fun M1 _ =>
  if a2 < 0 then
  F_X12_givenBy_p15 M1 a0 a1 a3
  else
  lr (gR M1 1311 a0) (gK M1) 22 fun b3 =>
  grd ((inb a2 (gN M1 b3)) ∧ ((0 : Int32) = 0 ∨ (0 : Int32) = 1)) <| bnd (sA M1 b3 (ixn a2) (0 : Int32)) fun M4 =>
  F_X12_givenBy_p15 M4 a0 a1 a3
abbrev P_X12_isRing : MP := (RX12, cX12_isRing, 3, (some .boolean), 2, 46)
def F_X12_isRing_p31 (M : Mem) (y0 : Int32) : Option (Mem × Int32) :=
  grd (y0 = 0 ∨ y0 = 1) <| some (M, y0)
def F_X12_isRing_p30 (M : Mem) : Option (Mem × Int32) :=
  F_X12_isRing_p31 M (0 : Int32)
def F_X12_isRing (M : Mem) (a0 : Nat) (a1 : Int32) (a2 : Int32) : Option (Mem × Int32) :=
  cl (F_X12_isBore M a0 a1) fun M1 r2 =>
  if r2 = 0 then
  F_X12_isRing_p30 M1
  else
  lr (gR M1 1305 a0) (gK M1) 20 fun b3 =>
  grd (inb a1 (gN M1 b3)) <|
  cl (F_X12_in M1 (a2.toInt64) (0 : Int64) (((gA M1 b3 (ixn a1)) - (1 : Int32)).toInt64)) fun M4 r5 =>
  if r5 = 0 then
  F_X12_isRing_p30 M4
  else
  F_X12_isRing_p31 M4 (1 : Int32)
abbrev P_X12_heat : MP := (RX12, cX12_heat, 3, (some .long), 3, 68)
def F_X12_heat_p28 (M : Mem) (y0 : Int64) : Option (Mem × Int64) :=
  some (M, y0)
def F_X12_heat (M : Mem) (a0 : Nat) (a1 : Int32) (a2 : Int32) : Option (Mem × Int64) :=
  cl (F_X12_isRing M a0 a1 a2) fun M1 r2 =>
  if r2 = 0 then
  cl (F_X12_refuseLong M1 a0 (-1 : Int32)) fun M3 r4 =>
  F_X12_heat_p28 M3 r4
  else
  lr (gR M1 1313 a0) (gK M1) 21 fun b5 =>
  grd (inb (((8 : Int32) * a1) + a2) (gN M1 b5)) <|
  F_X12_heat_p28 M1 (gB M1 b5 (ixn (((8 : Int32) * a1) + a2)))
abbrev P_X12_hours : MP := (RX12, cX12_hours, 3, (some .int), 5, 131)
def F_X12_hours_p33 (k48 : Mem → Nat → Option (Mem × Int32)) : Nat → Mem → Nat → Int32 → Int32 → Option (Mem × Int32)
  | 0, _, _, _, _ => none
  | n + 1, M, x0, x1, x2 =>
    if x1 ≤ x2 then
    k48 M x0
    else
    cl (F_X12_goes M x0) fun M1 _ =>
    bnd (x2 + 1) fun v3 =>
    (F_X12_hours_p33 k48 n) M1 x0 x1 v3
def F_X12_hours_p48 (M : Mem) (x0 : Nat) : Option (Mem × Int32) :=
  some (M, gI M 1301 x0)
def F_X12_hours (M : Mem) (a0 : Nat) (a1 : Int32) : Option (Mem × Int32) :=
  if (1 : Int32) ≤ a1 then
  if a1 ≤ ((8000 : Int32) - (gI M 1301 a0)) then
  (F_X12_hours_p33 F_X12_hours_p48 FU) M a0 a1 (0 : Int32)
  else
  cl (F_X12_refuse M a0 (-6 : Int32)) fun M1 r2 =>
  some (M1, r2)
  else
  cl (F_X12_refuse M a0 (-4 : Int32)) fun M3 r4 =>
  some (M3, r4)
abbrev P_X12_house : MP := (RX12, cX12_house, 4, (some .int), 1, 21)
def F_X12_house_p12 (M : Mem) (x0 : Nat) : Option (Mem × Int32) :=
  cl (F_X12_refuse M x0 (-4 : Int32)) fun M1 r2 =>
  some (M1, r2)
def F_X12_house_p48 (M : Mem) (x0 : Nat) : Option (Mem × Int32) :=
  cl (F_X12_refuse M x0 (-6 : Int32)) fun M1 r2 =>
  some (M1, r2)
def F_X12_house (M : Mem) (a0 : Nat) (a1 : Int32) (a2 : Int32) (a3 : Int32) : Option (Mem × Int32) :=
  if a1 < 0 then
  F_X12_house_p12 M a0
  else
  if a2 < 0 then
  F_X12_house_p12 M a0
  else
  if 0 ≤ a3 then
  if (9999 : Int32) < a1 then
  F_X12_house_p48 M a0
  else
  if (999 : Int32) < a2 then
  F_X12_house_p48 M a0
  else
  if (16777215 : Int32) < a3 then
  F_X12_house_p48 M a0
  else
  if (gI M 1316 a0) = (20 : Int32) then
  F_X12_house_p48 M a0
  else
  lr (gR M 1317 a0) (gK M) 20 fun b1 =>
  grd (inb (gI M 1316 a0) (gN M b1)) <| bnd (sA M b1 (ixn (gI M 1316 a0)) a1) fun M2 =>
  lr (gR M2 1318 a0) (gK M2) 20 fun b3 =>
  grd (inb (gI M2 1316 a0) (gN M2 b3)) <| bnd (sA M2 b3 (ixn (gI M2 1316 a0)) a2) fun M4 =>
  lr (gR M4 1319 a0) (gK M4) 20 fun b5 =>
  grd (inb (gI M4 1316 a0) (gN M4 b5)) <| bnd (sA M4 b5 (ixn (gI M4 1316 a0)) a3) fun M6 =>
  bnd (sI M6 1316 a0 ((gI M6 1316 a0) + (1 : Int32))) fun M7 =>
  some (M7, (gI M7 1316 a0) - (1 : Int32))
  else
  F_X12_house_p12 M a0
abbrev P_X12_init : MP := (RX12, cX12_init, 1, none, 1, 20)
set_option maxRecDepth 100000 in
def F_X12_init (M : Mem) (a0 : Nat) : Option (Mem × Unit) :=
  grd (0 ≤ (7 : Int32).toInt ∧ (7 : Int32).toInt ≤ 10000) <| bnd (gH M) fun b1 => bnd (nA M 20 (ixn (7 : Int32))) fun M2 =>
  bnd (sR M2 1300 a0 (some b1)) fun M3 =>
  grd (0 ≤ (8 : Int32).toInt ∧ (8 : Int32).toInt ≤ 10000) <| bnd (gH M3) fun b4 => bnd (nA M3 20 (ixn (8 : Int32))) fun M5 =>
  bnd (sR M5 1303 a0 (some b4)) fun M6 =>
  grd (0 ≤ (8 : Int32).toInt ∧ (8 : Int32).toInt ≤ 10000) <| bnd (gH M6) fun b7 => bnd (nA M6 20 (ixn (8 : Int32))) fun M8 =>
  bnd (sR M8 1304 a0 (some b7)) fun M9 =>
  grd (0 ≤ (8 : Int32).toInt ∧ (8 : Int32).toInt ≤ 10000) <| bnd (gH M9) fun b10 => bnd (nA M9 20 (ixn (8 : Int32))) fun M11 =>
  bnd (sR M11 1305 a0 (some b10)) fun M12 =>
  grd (0 ≤ (8 : Int32).toInt ∧ (8 : Int32).toInt ≤ 10000) <| bnd (gH M12) fun b13 => bnd (nA M12 20 (ixn (8 : Int32))) fun M14 =>
  bnd (sR M14 1306 a0 (some b13)) fun M15 =>
  grd (0 ≤ (8 : Int32).toInt ∧ (8 : Int32).toInt ≤ 10000) <| bnd (gH M15) fun b16 => bnd (nA M15 20 (ixn (8 : Int32))) fun M17 =>
  bnd (sR M17 1307 a0 (some b16)) fun M18 =>
  grd (0 ≤ (8 : Int32).toInt ∧ (8 : Int32).toInt ≤ 10000) <| bnd (gH M18) fun b19 => bnd (nA M18 20 (ixn (8 : Int32))) fun M20 =>
  bnd (sR M20 1308 a0 (some b19)) fun M21 =>
  grd (0 ≤ (8 : Int32).toInt ∧ (8 : Int32).toInt ≤ 10000) <| bnd (gH M21) fun b22 => bnd (nA M21 20 (ixn (8 : Int32))) fun M23 =>
  bnd (sR M23 1309 a0 (some b22)) fun M24 =>
  grd (0 ≤ (8 : Int32).toInt ∧ (8 : Int32).toInt ≤ 10000) <| bnd (gH M24) fun b25 => bnd (nA M24 20 (ixn (8 : Int32))) fun M26 =>
  bnd (sR M26 1310 a0 (some b25)) fun M27 =>
  grd (0 ≤ (8 : Int32).toInt ∧ (8 : Int32).toInt ≤ 10000) <| bnd (gH M27) fun b28 => bnd (nA M27 22 (ixn (8 : Int32))) fun M29 =>
  bnd (sR M29 1311 a0 (some b28)) fun M30 =>
  grd (0 ≤ (64 : Int32).toInt ∧ (64 : Int32).toInt ≤ 10000) <| bnd (gH M30) fun b31 => bnd (nA M30 21 (ixn (64 : Int32))) fun M32 =>
  bnd (sR M32 1313 a0 (some b31)) fun M33 =>
  grd (0 ≤ (8 : Int32).toInt ∧ (8 : Int32).toInt ≤ 10000) <| bnd (gH M33) fun b34 => bnd (nA M33 21 (ixn (8 : Int32))) fun M35 =>
  bnd (sR M35 1314 a0 (some b34)) fun M36 =>
  grd (0 ≤ (9 : Int32).toInt ∧ (9 : Int32).toInt ≤ 10000) <| bnd (gH M36) fun b37 => bnd (nA M36 21 (ixn (9 : Int32))) fun M38 =>
  bnd (sR M38 1315 a0 (some b37)) fun M39 =>
  grd (0 ≤ (20 : Int32).toInt ∧ (20 : Int32).toInt ≤ 10000) <| bnd (gH M39) fun b40 => bnd (nA M39 20 (ixn (20 : Int32))) fun M41 =>
  bnd (sR M41 1317 a0 (some b40)) fun M42 =>
  grd (0 ≤ (20 : Int32).toInt ∧ (20 : Int32).toInt ≤ 10000) <| bnd (gH M42) fun b43 => bnd (nA M42 20 (ixn (20 : Int32))) fun M44 =>
  bnd (sR M44 1318 a0 (some b43)) fun M45 =>
  grd (0 ≤ (20 : Int32).toInt ∧ (20 : Int32).toInt ≤ 10000) <| bnd (gH M45) fun b46 => bnd (nA M45 20 (ixn (20 : Int32))) fun M47 =>
  bnd (sR M47 1319 a0 (some b46)) fun M48 =>
  grd (0 ≤ (20 : Int32).toInt ∧ (20 : Int32).toInt ≤ 10000) <| bnd (gH M48) fun b49 => bnd (nA M48 20 (ixn (20 : Int32))) fun M50 =>
  grd (inb (0 : Int32) (gN M50 b49)) <| bnd (sA M50 b49 (ixn (0 : Int32)) (-1 : Int32)) fun M51 =>
  grd (inb (1 : Int32) (gN M51 b49)) <| bnd (sA M51 b49 (ixn (1 : Int32)) (-1 : Int32)) fun M52 =>
  grd (inb (2 : Int32) (gN M52 b49)) <| bnd (sA M52 b49 (ixn (2 : Int32)) (-1 : Int32)) fun M53 =>
  grd (inb (3 : Int32) (gN M53 b49)) <| bnd (sA M53 b49 (ixn (3 : Int32)) (-1 : Int32)) fun M54 =>
  grd (inb (4 : Int32) (gN M54 b49)) <| bnd (sA M54 b49 (ixn (4 : Int32)) (-1 : Int32)) fun M55 =>
  grd (inb (5 : Int32) (gN M55 b49)) <| bnd (sA M55 b49 (ixn (5 : Int32)) (-1 : Int32)) fun M56 =>
  grd (inb (6 : Int32) (gN M56 b49)) <| bnd (sA M56 b49 (ixn (6 : Int32)) (-1 : Int32)) fun M57 =>
  grd (inb (7 : Int32) (gN M57 b49)) <| bnd (sA M57 b49 (ixn (7 : Int32)) (-1 : Int32)) fun M58 =>
  grd (inb (8 : Int32) (gN M58 b49)) <| bnd (sA M58 b49 (ixn (8 : Int32)) (-1 : Int32)) fun M59 =>
  grd (inb (9 : Int32) (gN M59 b49)) <| bnd (sA M59 b49 (ixn (9 : Int32)) (-1 : Int32)) fun M60 =>
  grd (inb (10 : Int32) (gN M60 b49)) <| bnd (sA M60 b49 (ixn (10 : Int32)) (-1 : Int32)) fun M61 =>
  grd (inb (11 : Int32) (gN M61 b49)) <| bnd (sA M61 b49 (ixn (11 : Int32)) (-1 : Int32)) fun M62 =>
  grd (inb (12 : Int32) (gN M62 b49)) <| bnd (sA M62 b49 (ixn (12 : Int32)) (-1 : Int32)) fun M63 =>
  grd (inb (13 : Int32) (gN M63 b49)) <| bnd (sA M63 b49 (ixn (13 : Int32)) (-1 : Int32)) fun M64 =>
  grd (inb (14 : Int32) (gN M64 b49)) <| bnd (sA M64 b49 (ixn (14 : Int32)) (-1 : Int32)) fun M65 =>
  grd (inb (15 : Int32) (gN M65 b49)) <| bnd (sA M65 b49 (ixn (15 : Int32)) (-1 : Int32)) fun M66 =>
  grd (inb (16 : Int32) (gN M66 b49)) <| bnd (sA M66 b49 (ixn (16 : Int32)) (-1 : Int32)) fun M67 =>
  grd (inb (17 : Int32) (gN M67 b49)) <| bnd (sA M67 b49 (ixn (17 : Int32)) (-1 : Int32)) fun M68 =>
  grd (inb (18 : Int32) (gN M68 b49)) <| bnd (sA M68 b49 (ixn (18 : Int32)) (-1 : Int32)) fun M69 =>
  grd (inb (19 : Int32) (gN M69 b49)) <| bnd (sA M69 b49 (ixn (19 : Int32)) (-1 : Int32)) fun M70 =>
  bnd (sR M70 1320 a0 (some b49)) fun M71 =>
  grd (0 ≤ (12 : Int32).toInt ∧ (12 : Int32).toInt ≤ 10000) <| bnd (gH M71) fun b72 => bnd (nA M71 20 (ixn (12 : Int32))) fun M73 =>
  bnd (sR M73 1321 a0 (some b72)) fun M74 =>
  grd (0 ≤ (8 : Int32).toInt ∧ (8 : Int32).toInt ≤ 10000) <| bnd (gH M74) fun b75 => bnd (nA M74 20 (ixn (8 : Int32))) fun M76 =>
  bnd (sR M76 1323 a0 (some b75)) fun M77 =>
  grd (0 ≤ (8 : Int32).toInt ∧ (8 : Int32).toInt ≤ 10000) <| bnd (gH M77) fun b78 => bnd (nA M77 20 (ixn (8 : Int32))) fun M79 =>
  bnd (sR M79 1324 a0 (some b78)) fun M80 =>
  grd (0 ≤ (24 : Int32).toInt ∧ (24 : Int32).toInt ≤ 10000) <| bnd (gH M80) fun b81 => bnd (nA M80 20 (ixn (24 : Int32))) fun M82 =>
  grd (inb (0 : Int32) (gN M82 b81)) <| bnd (sA M82 b81 (ixn (0 : Int32)) (10 : Int32)) fun M83 =>
  grd (inb (1 : Int32) (gN M83 b81)) <| bnd (sA M83 b81 (ixn (1 : Int32)) (10 : Int32)) fun M84 =>
  grd (inb (2 : Int32) (gN M84 b81)) <| bnd (sA M84 b81 (ixn (2 : Int32)) (10 : Int32)) fun M85 =>
  grd (inb (3 : Int32) (gN M85 b81)) <| bnd (sA M85 b81 (ixn (3 : Int32)) (10 : Int32)) fun M86 =>
  grd (inb (4 : Int32) (gN M86 b81)) <| bnd (sA M86 b81 (ixn (4 : Int32)) (10 : Int32)) fun M87 =>
  grd (inb (5 : Int32) (gN M87 b81)) <| bnd (sA M87 b81 (ixn (5 : Int32)) (10 : Int32)) fun M88 =>
  grd (inb (6 : Int32) (gN M88 b81)) <| bnd (sA M88 b81 (ixn (6 : Int32)) (10 : Int32)) fun M89 =>
  grd (inb (7 : Int32) (gN M89 b81)) <| bnd (sA M89 b81 (ixn (7 : Int32)) (10 : Int32)) fun M90 =>
  grd (inb (8 : Int32) (gN M90 b81)) <| bnd (sA M90 b81 (ixn (8 : Int32)) (10 : Int32)) fun M91 =>
  grd (inb (9 : Int32) (gN M91 b81)) <| bnd (sA M91 b81 (ixn (9 : Int32)) (10 : Int32)) fun M92 =>
  grd (inb (10 : Int32) (gN M92 b81)) <| bnd (sA M92 b81 (ixn (10 : Int32)) (10 : Int32)) fun M93 =>
  grd (inb (11 : Int32) (gN M93 b81)) <| bnd (sA M93 b81 (ixn (11 : Int32)) (10 : Int32)) fun M94 =>
  grd (inb (12 : Int32) (gN M94 b81)) <| bnd (sA M94 b81 (ixn (12 : Int32)) (10 : Int32)) fun M95 =>
  grd (inb (13 : Int32) (gN M95 b81)) <| bnd (sA M95 b81 (ixn (13 : Int32)) (10 : Int32)) fun M96 =>
  grd (inb (14 : Int32) (gN M96 b81)) <| bnd (sA M96 b81 (ixn (14 : Int32)) (10 : Int32)) fun M97 =>
  grd (inb (15 : Int32) (gN M97 b81)) <| bnd (sA M97 b81 (ixn (15 : Int32)) (10 : Int32)) fun M98 =>
  grd (inb (16 : Int32) (gN M98 b81)) <| bnd (sA M98 b81 (ixn (16 : Int32)) (10 : Int32)) fun M99 =>
  grd (inb (17 : Int32) (gN M99 b81)) <| bnd (sA M99 b81 (ixn (17 : Int32)) (10 : Int32)) fun M100 =>
  grd (inb (18 : Int32) (gN M100 b81)) <| bnd (sA M100 b81 (ixn (18 : Int32)) (10 : Int32)) fun M101 =>
  grd (inb (19 : Int32) (gN M101 b81)) <| bnd (sA M101 b81 (ixn (19 : Int32)) (10 : Int32)) fun M102 =>
  grd (inb (20 : Int32) (gN M102 b81)) <| bnd (sA M102 b81 (ixn (20 : Int32)) (10 : Int32)) fun M103 =>
  grd (inb (21 : Int32) (gN M103 b81)) <| bnd (sA M103 b81 (ixn (21 : Int32)) (10 : Int32)) fun M104 =>
  grd (inb (22 : Int32) (gN M104 b81)) <| bnd (sA M104 b81 (ixn (22 : Int32)) (10 : Int32)) fun M105 =>
  grd (inb (23 : Int32) (gN M105 b81)) <| bnd (sA M105 b81 (ixn (23 : Int32)) (10 : Int32)) fun M106 =>
  bnd (sR M106 1325 a0 (some b81)) fun M107 =>
  grd (0 ≤ (24 : Int32).toInt ∧ (24 : Int32).toInt ≤ 10000) <| bnd (gH M107) fun b108 => bnd (nA M107 20 (ixn (24 : Int32))) fun M109 =>
  bnd (sR M109 1326 a0 (some b108)) fun M110 =>
  grd (0 ≤ (60 : Int32).toInt ∧ (60 : Int32).toInt ≤ 10000) <| bnd (gH M110) fun b111 => bnd (nA M110 20 (ixn (60 : Int32))) fun M112 =>
  bnd (sR M112 1327 a0 (some b111)) fun M113 =>
  grd (0 ≤ (30 : Int32).toInt ∧ (30 : Int32).toInt ≤ 10000) <| bnd (gH M113) fun b114 => bnd (nA M113 20 (ixn (30 : Int32))) fun M115 =>
  bnd (sR M115 1330 a0 (some b114)) fun M116 =>
  grd (0 ≤ (30 : Int32).toInt ∧ (30 : Int32).toInt ≤ 10000) <| bnd (gH M116) fun b117 => bnd (nA M116 20 (ixn (30 : Int32))) fun M118 =>
  bnd (sR M118 1331 a0 (some b117)) fun M119 =>
  grd (0 ≤ (30 : Int32).toInt ∧ (30 : Int32).toInt ≤ 10000) <| bnd (gH M119) fun b120 => bnd (nA M119 20 (ixn (30 : Int32))) fun M121 =>
  bnd (sR M121 1332 a0 (some b120)) fun M122 =>
  grd (0 ≤ (1860 : Int32).toInt ∧ (1860 : Int32).toInt ≤ 10000) <| bnd (gH M122) fun b123 => bnd (nA M122 20 (ixn (1860 : Int32))) fun M124 =>
  bnd (sR M124 1333 a0 (some b123)) fun M125 =>
  bnd (sI M125 1335 a0 (100 : Int32)) fun M126 =>
  grd (0 ≤ (20 : Int32).toInt ∧ (20 : Int32).toInt ≤ 10000) <| bnd (gH M126) fun b127 => bnd (nA M126 20 (ixn (20 : Int32))) fun M128 =>
  bnd (sR M128 1337 a0 (some b127)) fun M129 =>
  grd (0 ≤ (20 : Int32).toInt ∧ (20 : Int32).toInt ≤ 10000) <| bnd (gH M129) fun b130 => bnd (nA M129 20 (ixn (20 : Int32))) fun M131 =>
  bnd (sR M131 1338 a0 (some b130)) fun M132 =>
  grd (0 ≤ (20 : Int32).toInt ∧ (20 : Int32).toInt ≤ 10000) <| bnd (gH M132) fun b133 => bnd (nA M132 21 (ixn (20 : Int32))) fun M134 =>
  bnd (sR M134 1339 a0 (some b133)) fun M135 =>
  grd (0 ≤ (9 : Int32).toInt ∧ (9 : Int32).toInt ≤ 10000) <| bnd (gH M135) fun b136 => bnd (nA M135 20 (ixn (9 : Int32))) fun M137 =>
  grd (inb (0 : Int32) (gN M137 b136)) <| bnd (sA M137 b136 (ixn (0 : Int32)) (104 : Int32)) fun M138 =>
  grd (inb (1 : Int32) (gN M138 b136)) <| bnd (sA M138 b136 (ixn (1 : Int32)) (100 : Int32)) fun M139 =>
  grd (inb (2 : Int32) (gN M139 b136)) <| bnd (sA M139 b136 (ixn (2 : Int32)) (112 : Int32)) fun M140 =>
  grd (inb (3 : Int32) (gN M140 b136)) <| bnd (sA M140 b136 (ixn (3 : Int32)) (99 : Int32)) fun M141 =>
  grd (inb (4 : Int32) (gN M141 b136)) <| bnd (sA M141 b136 (ixn (4 : Int32)) (110 : Int32)) fun M142 =>
  grd (inb (5 : Int32) (gN M142 b136)) <| bnd (sA M142 b136 (ixn (5 : Int32)) (116 : Int32)) fun M143 =>
  grd (inb (6 : Int32) (gN M143 b136)) <| bnd (sA M143 b136 (ixn (6 : Int32)) (114 : Int32)) fun M144 =>
  grd (inb (7 : Int32) (gN M144 b136)) <| bnd (sA M144 b136 (ixn (7 : Int32)) (98 : Int32)) fun M145 =>
  grd (inb (8 : Int32) (gN M145 b136)) <| bnd (sA M145 b136 (ixn (8 : Int32)) (102 : Int32)) fun M146 =>
  bnd (sR M146 1340 a0 (some b136)) fun M147 =>
  grd (0 ≤ (9 : Int32).toInt ∧ (9 : Int32).toInt ≤ 10000) <| bnd (gH M147) fun b148 => bnd (nA M147 21 (ixn (9 : Int32))) fun M149 =>
  bnd (sR M149 1344 a0 (some b148)) fun M150 =>
  grd (0 ≤ (62 : Int32).toInt ∧ (62 : Int32).toInt ≤ 10000) <| bnd (gH M150) fun b151 => bnd (nA M150 21 (ixn (62 : Int32))) fun M152 =>
  bnd (sR M152 1345 a0 (some b151)) fun M153 =>
  grd (0 ≤ (64 : Int32).toInt ∧ (64 : Int32).toInt ≤ 10000) <| bnd (gH M153) fun b154 => bnd (nA M153 21 (ixn (64 : Int32))) fun M155 =>
  bnd (sR M155 1346 a0 (some b154)) fun M156 =>
  grd (0 ≤ (64 : Int32).toInt ∧ (64 : Int32).toInt ≤ 10000) <| bnd (gH M156) fun b157 => bnd (nA M156 21 (ixn (64 : Int32))) fun M158 =>
  bnd (sR M158 1347 a0 (some b157)) fun M159 =>
  grd (0 ≤ (8 : Int32).toInt ∧ (8 : Int32).toInt ≤ 10000) <| bnd (gH M159) fun b160 => bnd (nA M159 21 (ixn (8 : Int32))) fun M161 =>
  bnd (sR M161 1348 a0 (some b160)) fun M162 =>
  grd (0 ≤ (8 : Int32).toInt ∧ (8 : Int32).toInt ≤ 10000) <| bnd (gH M162) fun b163 => bnd (nA M162 21 (ixn (8 : Int32))) fun M164 =>
  bnd (sR M164 1349 a0 (some b163)) fun M165 =>
  grd (0 ≤ (8 : Int32).toInt ∧ (8 : Int32).toInt ≤ 10000) <| bnd (gH M165) fun b166 => bnd (nA M165 21 (ixn (8 : Int32))) fun M167 =>
  bnd (sR M167 1350 a0 (some b166)) fun M168 =>
  grd (0 ≤ (64 : Int32).toInt ∧ (64 : Int32).toInt ≤ 10000) <| bnd (gH M168) fun b169 => bnd (nA M168 21 (ixn (64 : Int32))) fun M170 =>
  bnd (sR M170 1351 a0 (some b169)) fun M171 =>
  grd (0 ≤ (8 : Int32).toInt ∧ (8 : Int32).toInt ≤ 10000) <| bnd (gH M171) fun b172 => bnd (nA M171 21 (ixn (8 : Int32))) fun M173 =>
  bnd (sR M173 1352 a0 (some b172)) fun M174 =>
  grd (0 ≤ (9 : Int32).toInt ∧ (9 : Int32).toInt ≤ 10000) <| bnd (gH M174) fun b175 => bnd (nA M174 21 (ixn (9 : Int32))) fun M176 =>
  bnd (sR M176 1353 a0 (some b175)) fun M177 =>
  grd (0 ≤ (8 : Int32).toInt ∧ (8 : Int32).toInt ≤ 10000) <| bnd (gH M177) fun b178 => bnd (nA M177 22 (ixn (8 : Int32))) fun M179 =>
  bnd (sR M179 1354 a0 (some b178)) fun M180 =>
  grd (0 ≤ (250 : Int32).toInt ∧ (250 : Int32).toInt ≤ 10000) <| bnd (gH M180) fun b181 => bnd (nA M180 21 (ixn (250 : Int32))) fun M182 =>
  bnd (sR M182 1356 a0 (some b181)) fun M183 =>
  grd (0 ≤ (24 : Int32).toInt ∧ (24 : Int32).toInt ≤ 10000) <| bnd (gH M183) fun b184 => bnd (nA M183 21 (ixn (24 : Int32))) fun M185 =>
  bnd (sR M185 1357 a0 (some b184)) fun M186 =>
  some (M186, ())
abbrev P_X12_join : MP := (RX12, cX12_join, 3, (some .int), 1, 25)
def F_X12_join (M : Mem) (a0 : Nat) (a1 : Int32) (a2 : Int32) : Option (Mem × Int32) :=
  cl (F_X12_in M (a1.toInt64) (0 : Int64) (((gI M 1316 a0) - (1 : Int32)).toInt64)) fun M1 r2 =>
  if r2 = 0 then
  cl (F_X12_refuse M1 a0 (-1 : Int32)) fun M12 r13 =>
  some (M12, r13)
  else
  lr (gR M1 1320 a0) (gK M1) 20 fun b3 =>
  grd (inb a1 (gN M1 b3)) <|
  if (gA M1 b3 (ixn a1)) < 0 then
  if ((gI M1 1301 a0) / (24 : Int32)) ≤ a2 then
  if a2 ≤ (333 : Int32) then
  lr (gR M1 1320 a0) (gK M1) 20 fun b4 =>
  grd (inb a1 (gN M1 b4)) <| bnd (sA M1 b4 (ixn a1) a2) fun M5 =>
  some (M5, (1 : Int32))
  else
  cl (F_X12_refuse M1 a0 (-6 : Int32)) fun M6 r7 =>
  some (M6, r7)
  else
  cl (F_X12_refuse M1 a0 (-4 : Int32)) fun M8 r9 =>
  some (M8, r9)
  else
  cl (F_X12_refuse M1 a0 (-3 : Int32)) fun M10 r11 =>
  some (M10, r11)
abbrev P_X12_leak : MP := (RX12, cX12_leak, 5, (some .long), 2, 46)
def F_X12_leak_p55 (k21 : Mem → Nat → Int32 → Int32 → Int32 → Int32 → Option (Mem × Int64)) (M : Mem) (x0 : Nat) (x1 : Int32) (x2 : Int32) (x3 : Int32) (x4 : Int32) : Option (Mem × Int64) :=
  bnd (x4 + 1) fun v1 =>
  k21 M x0 x1 x2 x3 v1
def F_X12_leak_p51 (k21 : Mem → Nat → Int32 → Int32 → Int32 → Int32 → Option (Mem × Int64)) (M : Mem) (x0 : Nat) (x1 : Int32) (x4 : Int32) (y0 : Int32) : Option (Mem × Int64) :=
  (F_X12_leak_p55 k21) M x0 x1 y0 x4 x4
def F_X12_leak_p21 (k61 : Mem → Nat → Int32 → Int32 → Int32 → Option (Mem × Int64)) : Nat → Mem → Nat → Int32 → Int32 → Int32 → Int32 → Option (Mem × Int64)
  | 0, _, _, _, _, _, _ => none
  | n + 1, M, x0, x1, x2, x3, x4 =>
    if (gI M 1336 x0) ≤ x4 then
    k61 M x0 x1 x2 x3
    else
    lr (gR M 1337 x0) (gK M) 20 fun b1 =>
    grd (inb x4 (gN M b1)) <|
    if (gA M b1 (ixn x4)) = x1 then
    if 0 ≤ x2 then
    (F_X12_leak_p51 (F_X12_leak_p21 k61 n)) M x0 x1 x4 x2
    else
    (F_X12_leak_p51 (F_X12_leak_p21 k61 n)) M x0 x1 x4 x4
    else
    (F_X12_leak_p55 (F_X12_leak_p21 k61 n)) M x0 x1 x2 x3 x4
def F_X12_leak_p80 (M : Mem) (x0 : Nat) : Option (Mem × Int64) :=
  cl (F_X12_refuseLong M x0 (-3 : Int32)) fun M1 r2 =>
  some (M1, r2)
def F_X12_leak_p61 (M : Mem) (x0 : Nat) (x1 : Int32) (x2 : Int32) (x3 : Int32) : Option (Mem × Int64) :=
  if x2 < 0 then
  F_X12_leak_p80 M x0
  else
  lr (gR M 1338 x0) (gK M) 20 fun b1 =>
  grd (inb x2 (gN M b1)) <|
  lr (gR M 1338 x0) (gK M) 20 fun b2 =>
  grd (inb x3 (gN M b2)) <|
  if (gA M b1 (ixn x2)) = (gA M b2 (ixn x3)) then
  F_X12_leak_p80 M x0
  else
  lr (gR M 1339 x0) (gK M) 21 fun b3 =>
  grd (inb x2 (gN M b3)) <|
  lr (gR M 1339 x0) (gK M) 21 fun b4 =>
  grd (inb x3 (gN M b4)) <|
  lr (gR M 1306 x0) (gK M) 20 fun b5 =>
  grd (inb x1 (gN M b5)) <|
  lr (gR M 1338 x0) (gK M) 20 fun b6 =>
  grd (inb x3 (gN M b6)) <|
  lr (gR M 1338 x0) (gK M) 20 fun b7 =>
  grd (inb x2 (gN M b7)) <|
  grd (¬ (((gA M b6 (ixn x3)) - (gA M b7 (ixn x2))).toInt64) = 0) <|
  some (M, (((gB M b3 (ixn x2)) - (gB M b4 (ixn x3))) * ((gA M b5 (ixn x1)).toInt64)) / (((gA M b6 (ixn x3)) - (gA M b7 (ixn x2))).toInt64))
def F_X12_leak (M : Mem) (a0 : Nat) (a1 : Int32) : Option (Mem × Int64) :=
  cl (F_X12_isBore M a0 a1) fun M1 r2 =>
  if r2 = 0 then
  cl (F_X12_refuseLong M1 a0 (-1 : Int32)) fun M3 r4 =>
  some (M3, r4)
  else
  (F_X12_leak_p21 F_X12_leak_p61 FU) M1 a0 a1 (-1 : Int32) (-1 : Int32) (0 : Int32)
abbrev P_X12_lift : MP := (RX12, cX12_lift, 2, (some .int), 1, 27)
def F_X12_lift_p37 (M : Mem) (y0 : Int32) : Option (Mem × Int32) :=
  some (M, y0)
def F_X12_lift (M : Mem) (a0 : Nat) (a1 : Int32) : Option (Mem × Int32) :=
  if (-100000 : Int32) ≤ a1 then
  if a1 ≤ (200000 : Int32) then
  cl (F_X12_liftAt M a0 (a1.toInt64)) fun M1 r2 =>
  F_X12_lift_p37 M1 (r2.toInt32)
  else
  cl (F_X12_refuse M a0 (-6 : Int32)) fun M3 r4 =>
  F_X12_lift_p37 M3 r4
  else
  cl (F_X12_refuse M a0 (-4 : Int32)) fun M5 r6 =>
  F_X12_lift_p37 M5 r6
abbrev P_X12_may : MP := (RX12, cX12_may, 3, (some .int), 3, 76)
def F_X12_may_p42 (M : Mem) (y0 : Int32) : Option (Mem × Int32) :=
  some (M, y0)
def F_X12_may (M : Mem) (a0 : Nat) (a1 : Int32) (a2 : Int32) : Option (Mem × Int32) :=
  cl (F_X12_isBore M a0 a1) fun M1 r2 =>
  if r2 = 0 then
  cl (F_X12_refuse M1 a0 (-1 : Int32)) fun M9 r10 =>
  F_X12_may_p42 M9 r10
  else
  cl (F_X12_in M1 (a2.toInt64) (0 : Int64) (1 : Int64)) fun M3 r4 =>
  if r4 = 0 then
  cl (F_X12_refuse M3 a0 (-2 : Int32)) fun M5 r6 =>
  F_X12_may_p42 M5 r6
  else
  cl (F_X12_mayOf M3 a0 a1 a2) fun M7 r8 =>
  F_X12_may_p42 M7 (r8.toInt32)
abbrev P_X12_need : MP := (RX12, cX12_need, 2, (some .long), 2, 50)
def F_X12_need_p34 (M : Mem) (y0 : Int64) : Option (Mem × Int64) :=
  some (M, y0)
def F_X12_need (M : Mem) (a0 : Nat) (a1 : Int32) : Option (Mem × Int64) :=
  if 0 ≤ a1 then
  if a1 ≤ (9999 : Int32) then
  cl (F_X12_needOf M a0 a1) fun M1 r2 =>
  F_X12_need_p34 M1 r2
  else
  cl (F_X12_refuseLong M a0 (-6 : Int32)) fun M3 r4 =>
  F_X12_need_p34 M3 r4
  else
  cl (F_X12_refuseLong M a0 (-4 : Int32)) fun M5 r6 =>
  F_X12_need_p34 M5 r6
abbrev P_X12_open : MP := (RX12, cX12_open, 3, (some .int), 2, 46)
def F_X12_open (M : Mem) (a0 : Nat) (a1 : Int32) (a2 : Int32) : Option (Mem × Int32) :=
  cl (F_X12_isBore M a0 a1) fun M1 r2 =>
  if r2 = 0 then
  cl (F_X12_refuse M1 a0 (-1 : Int32)) fun M6 r7 =>
  some (M6, r7)
  else
  lr (gR M1 1311 a0) (gK M1) 22 fun b3 =>
  grd (inb a1 (gN M1 b3)) <|
  if (gA M1 b3 (ixn a1)) = a2 then
  some (M1, (0 : Int32))
  else
  lr (gR M1 1311 a0) (gK M1) 22 fun b4 =>
  grd ((inb a1 (gN M1 b4)) ∧ (a2 = 0 ∨ a2 = 1)) <| bnd (sA M1 b4 (ixn a1) a2) fun M5 =>
  some (M5, (1 : Int32))
abbrev P_X12_point : MP := (RX12, cX12_point, 3, (some .int), 1, 21)
def F_X12_point_p45 (M : Mem) (x0 : Nat) : Option (Mem × Int32) :=
  cl (F_X12_refuse M x0 (-4 : Int32)) fun M1 r2 =>
  some (M1, r2)
def F_X12_point_p74 (M : Mem) (x0 : Nat) : Option (Mem × Int32) :=
  cl (F_X12_refuse M x0 (-6 : Int32)) fun M1 r2 =>
  some (M1, r2)
def F_X12_point_p52 (M : Mem) (x0 : Nat) (x1 : Int32) (x2 : Int32) : Option (Mem × Int32) :=
  if (99 : Int32) < x1 then
  F_X12_point_p74 M x0
  else
  if (999 : Int32) < x2 then
  F_X12_point_p74 M x0
  else
  if (gI M 1322 x0) = (8 : Int32) then
  F_X12_point_p74 M x0
  else
  lr (gR M 1323 x0) (gK M) 20 fun b1 =>
  grd (inb (gI M 1322 x0) (gN M b1)) <| bnd (sA M b1 (ixn (gI M 1322 x0)) x1) fun M2 =>
  lr (gR M2 1324 x0) (gK M2) 20 fun b3 =>
  grd (inb (gI M2 1322 x0) (gN M2 b3)) <| bnd (sA M2 b3 (ixn (gI M2 1322 x0)) x2) fun M4 =>
  bnd (sI M4 1322 x0 ((gI M4 1322 x0) + (1 : Int32))) fun M5 =>
  some (M5, gI M5 1322 x0)
def F_X12_point_p41 (M : Mem) (x0 : Nat) (x1 : Int32) (x2 : Int32) (y0 : Int32) (y1 : Nat) (y2 : Int32) : Option (Mem × Int32) :=
  grd (inb y2 (gN M y1)) <|
  if (gA M y1 (ixn y2)) < y0 then
  F_X12_point_p52 M x0 x1 x2
  else
  F_X12_point_p45 M x0
def F_X12_point (M : Mem) (a0 : Nat) (a1 : Int32) (a2 : Int32) : Option (Mem × Int32) :=
  if a1 < (-20 : Int32) then
  F_X12_point_p45 M a0
  else
  if a2 < (100 : Int32) then
  F_X12_point_p45 M a0
  else
  if (gI M 1322 a0) ≤ 0 then
  F_X12_point_p52 M a0 a1 a2
  else
  lr (gR M 1323 a0) (gK M) 20 fun b1 =>
  if (gI M 1322 a0) = 0 then
  F_X12_point_p41 M a0 a1 a2 a1 b1 (0 : Int32)
  else
  F_X12_point_p41 M a0 a1 a2 a1 b1 ((gI M 1322 a0) - (1 : Int32))
abbrev P_X12_price : MP := (RX12, cX12_price, 5, (some .int), 1, 23)
def F_X12_price (M : Mem) (a0 : Nat) (a1 : Int32) (a2 : Int32) : Option (Mem × Int32) :=
  cl (F_X12_barred M a0 a1 a2 (999 : Int32)) fun M1 r2 =>
  if r2 = 0 then
  lr (gR M1 1325 a0) (gK M1) 20 fun b3 =>
  grd (inb a1 (gN M1 b3)) <|
  bnd (gA M1 b3 (ixn a1)) fun v4 =>
  lr (gR M1 1325 a0) (gK M1) 20 fun b5 =>
  grd (inb a1 (gN M1 b5)) <| bnd (sA M1 b5 (ixn a1) a2) fun M6 =>
  some (M6, v4)
  else
  cl (F_X12_refuse M1 a0 r2) fun M7 r8 =>
  some (M7, r8)
abbrev P_X12_reading : MP := (RX12, cX12_reading, 3, (some .int), 2, 46)
def F_X12_reading_p42 (M : Mem) (x0 : Nat) : Option (Mem × Int32) :=
  cl (F_X12_refuse M x0 (-6 : Int32)) fun M1 r2 =>
  some (M1, r2)
def F_X12_reading (M : Mem) (a0 : Nat) (a1 : Int32) (a2 : Int32) : Option (Mem × Int32) :=
  cl (F_X12_isBore M a0 a1) fun M1 r2 =>
  if r2 = 0 then
  cl (F_X12_refuse M1 a0 (-1 : Int32)) fun M14 r15 =>
  some (M14, r15)
  else
  if (-100000 : Int32) ≤ a2 then
  if (200000 : Int32) < a2 then
  F_X12_reading_p42 M1 a0
  else
  if (gI M1 1336 a0) = (20 : Int32) then
  F_X12_reading_p42 M1 a0
  else
  lr (gR M1 1337 a0) (gK M1) 20 fun b3 =>
  grd (inb (gI M1 1336 a0) (gN M1 b3)) <| bnd (sA M1 b3 (ixn (gI M1 1336 a0)) a1) fun M4 =>
  lr (gR M4 1338 a0) (gK M4) 20 fun b5 =>
  grd (inb (gI M4 1336 a0) (gN M4 b5)) <| bnd (sA M4 b5 (ixn (gI M4 1336 a0)) (gI M4 1301 a0)) fun M6 =>
  lr (gR M6 1339 a0) (gK M6) 21 fun b7 =>
  cl (F_X12_warmthOf M6 a0 a1 (0 : Int32)) fun M8 r9 =>
  grd (inb (gI M6 1336 a0) (gN M8 b7)) <| bnd (sB M8 b7 (ixn (gI M6 1336 a0)) ((a2.toInt64) - r9)) fun M10 =>
  bnd (sI M10 1336 a0 ((gI M10 1336 a0) + (1 : Int32))) fun M11 =>
  some (M11, (gI M11 1336 a0) - (1 : Int32))
  else
  cl (F_X12_refuse M1 a0 (-4 : Int32)) fun M12 r13 =>
  some (M12, r13)
abbrev P_X12_rule : MP := (RX12, cX12_rule, 4, (some .int), 81, 2322)
def F_X12_rule_p51 (M : Mem) (x0 : Nat) : Option (Mem × Int32) :=
  cl (F_X12_refuse M x0 (-6 : Int32)) fun M1 r2 =>
  some (M1, r2)
def F_X12_rule_p101 (M : Mem) (x0 : Nat) (x1 : Int32) (x2 : Int32) (y0 : Int32) : Option (Mem × Int32) :=
  bnd (sI M 1328 x0 (0 : Int32)) fun M1 =>
  if y0 = 0 then
  some (M1, (-20 : Int32) - (gI M1 1341 x0))
  else
  lr (gR M1 1330 x0) (gK M1) 20 fun b2 =>
  grd (inb (gI M1 1329 x0) (gN M1 b2)) <| bnd (sA M1 b2 (ixn (gI M1 1329 x0)) x1) fun M3 =>
  lr (gR M3 1331 x0) (gK M3) 20 fun b4 =>
  grd (inb (gI M3 1329 x0) (gN M3 b4)) <| bnd (sA M3 b4 (ixn (gI M3 1329 x0)) x2) fun M5 =>
  lr (gR M5 1332 x0) (gK M5) 20 fun b6 =>
  grd (inb (gI M5 1329 x0) (gN M5 b6)) <| bnd (sA M5 b6 (ixn (gI M5 1329 x0)) (gI M5 1342 x0)) fun M7 =>
  bnd (sI M7 1329 x0 ((gI M7 1329 x0) + (1 : Int32))) fun M8 =>
  some (M8, gI M8 1329 x0)
def F_X12_rule_p100 (M : Mem) (x0 : Nat) (x1 : Int32) (x2 : Int32) : Option (Mem × Int32) :=
  F_X12_rule_p101 M x0 x1 x2 (0 : Int32)
def F_X12_rule (M : Mem) (a0 : Nat) (a1 : Int32) (a2 : Int32) : Option (Mem × Int32) :=
  cl (F_X12_in M (a1.toInt64) (0 : Int64) (1 : Int64)) fun M1 r2 =>
  if r2 = 0 then
  cl (F_X12_refuse M1 a0 (-2 : Int32)) fun M10 r11 =>
  some (M10, r11)
  else
  if ((gI M1 1301 a0) / (24 : Int32)) ≤ a2 then
  if (333 : Int32) < a2 then
  F_X12_rule_p51 M1 a0
  else
  if (gI M1 1329 a0) = (30 : Int32) then
  F_X12_rule_p51 M1 a0
  else
  bnd (sI M1 1341 a0 (0 : Int32)) fun M3 =>
  bnd (sI M3 1342 a0 (0 : Int32)) fun M4 =>
  grd ((0 : Int32) = 0 ∨ (0 : Int32) = 1) <| bnd (sI M4 1343 a0 (0 : Int32)) fun M5 =>
  cl (F_X12_g FD 0 M5 a0 (0 : Int32)) fun M6 _ =>
  if (gI M6 1343 a0) = 0 then
  if (gI M6 1341 a0) = (gI M6 1328 a0) then
  F_X12_rule_p101 M6 a0 a1 a2 (1 : Int32)
  else
  F_X12_rule_p100 M6 a0 a1 a2
  else
  F_X12_rule_p100 M6 a0 a1 a2
  else
  cl (F_X12_refuse M1 a0 (-4 : Int32)) fun M8 r9 =>
  some (M8, r9)
abbrev P_X12_share : MP := (RX12, cX12_share, 3, (some .int), 1, 21)
def F_X12_share (M : Mem) (a0 : Nat) (a1 : Int32) : Option (Mem × Int32) :=
  if 0 ≤ a1 then
  if a1 ≤ (999 : Int32) then
  bnd (gI M 1312 a0) fun v1 =>
  bnd (sI M 1312 a0 a1) fun M2 =>
  some (M2, v1)
  else
  cl (F_X12_refuse M a0 (-6 : Int32)) fun M3 r4 =>
  some (M3, r4)
  else
  cl (F_X12_refuse M a0 (-4 : Int32)) fun M5 r6 =>
  some (M5, r6)
abbrev P_X12_soil : MP := (RX12, cX12_soil, 5, (some .int), 2, 46)
def F_X12_soil_p22 (M : Mem) (x0 : Nat) : Option (Mem × Int32) :=
  cl (F_X12_refuse M x0 (-4 : Int32)) fun M1 r2 =>
  some (M1, r2)
def F_X12_soil_p42 (M : Mem) (x0 : Nat) : Option (Mem × Int32) :=
  cl (F_X12_refuse M x0 (-6 : Int32)) fun M1 r2 =>
  some (M1, r2)
def F_X12_soil (M : Mem) (a0 : Nat) (a1 : Int32) (a2 : Int32) (a3 : Int32) : Option (Mem × Int32) :=
  cl (F_X12_isBore M a0 a1) fun M1 r2 =>
  if r2 = 0 then
  cl (F_X12_refuse M1 a0 (-1 : Int32)) fun M9 r10 =>
  some (M9, r10)
  else
  if a2 < 0 then
  F_X12_soil_p22 M1 a0
  else
  if 0 ≤ a3 then
  if (999 : Int32) < a2 then
  F_X12_soil_p42 M1 a0
  else
  if a3 ≤ (100 : Int32) then
  lr (gR M1 1309 a0) (gK M1) 20 fun b3 =>
  grd (inb a1 (gN M1 b3)) <|
  bnd (gA M1 b3 (ixn a1)) fun v4 =>
  lr (gR M1 1309 a0) (gK M1) 20 fun b5 =>
  grd (inb a1 (gN M1 b5)) <| bnd (sA M1 b5 (ixn a1) a2) fun M6 =>
  lr (gR M6 1310 a0) (gK M6) 20 fun b7 =>
  grd (inb a1 (gN M6 b7)) <| bnd (sA M6 b7 (ixn a1) a3) fun M8 =>
  some (M8, v4)
  else
  F_X12_soil_p42 M1 a0
  else
  F_X12_soil_p22 M1 a0
abbrev P_X12_sun : MP := (RX12, cX12_sun, 5, (some .int), 1, 23)
def F_X12_sun (M : Mem) (a0 : Nat) (a1 : Int32) (a2 : Int32) : Option (Mem × Int32) :=
  cl (F_X12_barred M a0 a1 a2 (99999 : Int32)) fun M1 r2 =>
  if r2 = 0 then
  lr (gR M1 1326 a0) (gK M1) 20 fun b3 =>
  grd (inb a1 (gN M1 b3)) <|
  bnd (gA M1 b3 (ixn a1)) fun v4 =>
  lr (gR M1 1326 a0) (gK M1) 20 fun b5 =>
  grd (inb a1 (gN M1 b5)) <| bnd (sA M1 b5 (ixn a1) a2) fun M6 =>
  some (M6, v4)
  else
  cl (F_X12_refuse M1 a0 r2) fun M7 r8 =>
  some (M7, r8)
abbrev P_X12_takenFrom : MP := (RX12, cX12_takenFrom, 4, (some .long), 6, 156)
def F_X12_takenFrom_p21 (M : Mem) (x0 : Nat) : Option (Mem × Int64) :=
  cl (F_X12_refuseLong M x0 (-1 : Int32)) fun M1 r2 =>
  some (M1, r2)
def F_X12_takenFrom (M : Mem) (a0 : Nat) (a1 : Int32) (a2 : Int32) (a3 : Int32) : Option (Mem × Int64) :=
  cl (F_X12_isBore M a0 a1) fun M1 r2 =>
  if r2 = 0 then
  F_X12_takenFrom_p21 M1 a0
  else
  cl (F_X12_isBore M1 a0 a2) fun M3 r4 =>
  if r4 = 0 then
  F_X12_takenFrom_p21 M3 a0
  else
  if a1 = a2 then
  F_X12_takenFrom_p21 M3 a0
  else
  cl (F_X12_bars M3 a0 a3 (500 : Int32)) fun M5 r6 =>
  if r6 = 0 then
  cl (F_X12_givenBy M5 a0 a1 a2 a3) fun M7 r8 =>
  cl (F_X12_givenBy M7 a0 a1 (-1 : Int32) a3) fun M9 r10 =>
  some (M9, r8 - r10)
  else
  cl (F_X12_bars M5 a0 a3 (500 : Int32)) fun M11 r12 =>
  cl (F_X12_refuseLong M11 a0 r12) fun M13 r14 =>
  some (M13, r14)
abbrev P_X12_tank : MP := (RX12, cX12_tank, 4, (some .int), 1, 21)
def F_X12_tank_p9 (M : Mem) (x0 : Nat) : Option (Mem × Int32) :=
  cl (F_X12_refuse M x0 (-4 : Int32)) fun M1 r2 =>
  some (M1, r2)
def F_X12_tank_p29 (M : Mem) (x0 : Nat) : Option (Mem × Int32) :=
  cl (F_X12_refuse M x0 (-6 : Int32)) fun M1 r2 =>
  some (M1, r2)
def F_X12_tank (M : Mem) (a0 : Nat) (a1 : Int32) (a2 : Int32) : Option (Mem × Int32) :=
  if a1 < 0 then
  F_X12_tank_p9 M a0
  else
  if (1 : Int32) ≤ a2 then
  if (9 : Int32) < a1 then
  F_X12_tank_p29 M a0
  else
  if a2 ≤ (9999 : Int32) then
  bnd (gI M 1334 a0) fun v1 =>
  bnd (sI M 1334 a0 a1) fun M2 =>
  bnd (sI M2 1335 a0 a2) fun M3 =>
  some (M3, v1)
  else
  F_X12_tank_p29 M a0
  else
  F_X12_tank_p9 M a0
abbrev P_X12_told : MP := (RX12, cX12_told, 6, (some .long), 2, 44)
def F_X12_told_p60 (k17 : Mem → Nat → Int32 → Int64 → Int32 → Int32 → Option (Mem × Int64)) (M : Mem) (x0 : Nat) (x1 : Int32) (x4 : Int32) (x5 : Int32) (y0 : Int64) (y1 : Int64) : Option (Mem × Int64) :=
  bnd (y0 + y1) fun v1 =>
  bnd (x5 + 1) fun v2 =>
  k17 M x0 x1 v1 x4 v2
def F_X12_told_p17 (k68 : Mem → Nat → Int32 → Int64 → Int32 → Option (Mem × Int64)) : Nat → Mem → Nat → Int32 → Int64 → Int32 → Int32 → Option (Mem × Int64)
  | 0, _, _, _, _, _, _ => none
  | n + 1, M, x0, x1, x2, x4, x5 =>
    lr (gR M 1305 x0) (gK M) 20 fun b1 =>
    grd (inb x4 (gN M b1)) <|
    if (gA M b1 (ixn x4)) ≤ x5 then
    k68 M x0 x1 x2 x4
    else
    if x1 = (9 : Int32) then
    lr (gR M 1313 x0) (gK M) 21 fun b4 =>
    grd (inb (((8 : Int32) * x4) + x5) (gN M b4)) <|
    (F_X12_told_p60 (F_X12_told_p17 k68 n)) M x0 x1 x4 x5 x2 (gB M b4 (ixn (((8 : Int32) * x4) + x5)))
    else
    cl (F_X12_atFirst M x0 x4 x5) fun M2 r3 =>
    (F_X12_told_p60 (F_X12_told_p17 k68 n)) M2 x0 x1 x4 x5 x2 r3
def F_X12_told_p68 (k5 : Mem → Nat → Int32 → Int64 → Int32 → Option (Mem × Int64)) (M : Mem) (x0 : Nat) (x1 : Int32) (x2 : Int64) (x4 : Int32) : Option (Mem × Int64) :=
  bnd (x4 + 1) fun v1 =>
  k5 M x0 x1 x2 v1
def F_X12_told_p5 (k74 : Mem → Nat → Int32 → Int64 → Option (Mem × Int64)) : Nat → Mem → Nat → Int32 → Int64 → Int32 → Option (Mem × Int64)
  | 0, _, _, _, _, _ => none
  | n + 1, M, x0, x1, x2, x4 =>
    if (gI M 1302 x0) ≤ x4 then
    k74 M x0 x1 x2
    else
    (F_X12_told_p17 (F_X12_told_p68 (F_X12_told_p5 k74 n)) FU) M x0 x1 x2 x4 (0 : Int32)
def F_X12_told_p119 (M : Mem) (y0 : Int64) : Option (Mem × Int64) :=
  some (M, y0)
def F_X12_told_p74 (M : Mem) (x0 : Nat) (x1 : Int32) (x2 : Int64) : Option (Mem × Int64) :=
  cl (F_X12_in M (x1.toInt64) (0 : Int64) (8 : Int64)) fun M1 r2 =>
  if r2 = 0 then
  cl (F_X12_in M1 (x1.toInt64) (9 : Int64) (10 : Int64)) fun M3 r4 =>
  if r4 = 0 then
  cl (F_X12_refuseLong M3 x0 (-2 : Int32)) fun M5 r6 =>
  F_X12_told_p119 M5 r6
  else
  F_X12_told_p119 M3 x2
  else
  lr (gR M1 1315 x0) (gK M1) 21 fun b7 =>
  grd (inb x1 (gN M1 b7)) <|
  F_X12_told_p119 M1 (gB M1 b7 (ixn x1))
def F_X12_told (M : Mem) (a0 : Nat) (a1 : Int32) : Option (Mem × Int64) :=
  (F_X12_told_p5 F_X12_told_p74 FU) M a0 a1 (0 : Int64) (0 : Int32)
abbrev P_X12_untable : MP := (RX12, cX12_untable, 2, (some .int), 0, 0)
def F_X12_untable (M : Mem) (a0 : Nat) : Option (Mem × Int32) :=
  bnd (gI M 1322 a0) fun v1 =>
  bnd (sI M 1322 a0 (0 : Int32)) fun M2 =>
  some (M2, v1)
abbrev P_X12_warmth : MP := (RX12, cX12_warmth, 3, (some .long), 3, 68)
def F_X12_warmth_p23 (M : Mem) (y0 : Int64) : Option (Mem × Int64) :=
  some (M, y0)
def F_X12_warmth (M : Mem) (a0 : Nat) (a1 : Int32) (a2 : Int32) : Option (Mem × Int64) :=
  cl (F_X12_isRing M a0 a1 a2) fun M1 r2 =>
  if r2 = 0 then
  cl (F_X12_refuseLong M1 a0 (-1 : Int32)) fun M3 r4 =>
  F_X12_warmth_p23 M3 r4
  else
  cl (F_X12_warmthOf M1 a0 a1 a2) fun M5 r6 =>
  F_X12_warmth_p23 M5 r6
abbrev P_X12_wrong : MP := (RX12, cX12_wrong, 2, (some .long), 2, 42)
def F_X12_wrong_p30 (M : Mem) (y0 : Int64) : Option (Mem × Int64) :=
  some (M, y0)
def F_X12_wrong (M : Mem) (a0 : Nat) (a1 : Int32) : Option (Mem × Int64) :=
  cl (F_X12_in M (a1.toInt64) (0 : Int64) (((gI M 1336 a0) - (1 : Int32)).toInt64)) fun M1 r2 =>
  if r2 = 0 then
  cl (F_X12_refuseLong M1 a0 (-1 : Int32)) fun M3 r4 =>
  F_X12_wrong_p30 M3 r4
  else
  lr (gR M1 1339 a0) (gK M1) 21 fun b5 =>
  grd (inb a1 (gN M1 b5)) <|
  F_X12_wrong_p30 M1 (gB M1 b5 (ixn a1))
def F_law_p1191 (h0 N : Nat) (xs : Nat → Int32) (k18 : Mem → Mem → Nat → Nat → Int32 → Option Unit) (M1 M2 : Mem) (x1 : Nat) (x2 : Nat) (x3 : Int32) : Option Unit :=
  bnd (x3 + 6) fun v1 =>
  k18 M1 M2 x1 x2 v1
def F_law_p172 (h0 N : Nat) (xs : Nat → Int32) (k18 : Mem → Mem → Nat → Nat → Int32 → Option Unit) (M1 M2 : Mem) (x1 : Nat) (x2 : Nat) (x3 : Int32) : Option Unit :=
  grd (inb (x3 + (1 : Int32)) N) <|
  lcl h0 M2 (gK M1 x1 = 13) (F_X11_hours M1 x1 (xs (ixn (x3 + (1 : Int32))))) fun M1 M2 r3 =>
  grd (inb (x3 + (1 : Int32)) N) <|
  lcl h0 M1 (gK M2 x2 = 14) (F_X12_hours M2 x2 (xs (ixn (x3 + (1 : Int32))))) fun M5 M4 r6 =>
  if r3 = r6 then
  (F_law_p1191 h0 N xs k18) M4 M5 x1 x2 x3
  else
  none
def F_law_p195 (h0 N : Nat) (xs : Nat → Int32) (k18 : Mem → Mem → Nat → Nat → Int32 → Option Unit) (M1 M2 : Mem) (x1 : Nat) (x2 : Nat) (x3 : Int32) : Option Unit :=
  grd (inb (x3 + (1 : Int32)) N) <|
  grd (inb (x3 + (2 : Int32)) N) <|
  grd (inb (x3 + (3 : Int32)) N) <|
  grd (inb (x3 + (4 : Int32)) N) <|
  grd (inb (x3 + (5 : Int32)) N) <|
  lcl h0 M2 (gK M1 x1 = 13) (F_X11_bore M1 x1 (xs (ixn (x3 + (1 : Int32)))) (xs (ixn (x3 + (2 : Int32)))) (xs (ixn (x3 + (3 : Int32)))) (xs (ixn (x3 + (4 : Int32)))) (xs (ixn (x3 + (5 : Int32))))) fun M1 M2 r3 =>
  grd (inb (x3 + (1 : Int32)) N) <|
  grd (inb (x3 + (2 : Int32)) N) <|
  grd (inb (x3 + (3 : Int32)) N) <|
  grd (inb (x3 + (4 : Int32)) N) <|
  grd (inb (x3 + (5 : Int32)) N) <|
  lcl h0 M1 (gK M2 x2 = 14) (F_X12_bore M2 x2 (xs (ixn (x3 + (1 : Int32)))) (xs (ixn (x3 + (2 : Int32)))) (xs (ixn (x3 + (3 : Int32)))) (xs (ixn (x3 + (4 : Int32)))) (xs (ixn (x3 + (5 : Int32))))) fun M5 M4 r6 =>
  if r3 = r6 then
  (F_law_p1191 h0 N xs k18) M4 M5 x1 x2 x3
  else
  none
def F_law_p258 (h0 N : Nat) (xs : Nat → Int32) (k18 : Mem → Mem → Nat → Nat → Int32 → Option Unit) (M1 M2 : Mem) (x1 : Nat) (x2 : Nat) (x3 : Int32) : Option Unit :=
  grd (inb (x3 + (1 : Int32)) N) <|
  grd (inb (x3 + (2 : Int32)) N) <|
  grd (inb (x3 + (3 : Int32)) N) <|
  lcl h0 M2 (gK M1 x1 = 13) (F_X11_soil M1 x1 (xs (ixn (x3 + (1 : Int32)))) (xs (ixn (x3 + (2 : Int32)))) (xs (ixn (x3 + (3 : Int32))))) fun M1 M2 r3 =>
  grd (inb (x3 + (1 : Int32)) N) <|
  grd (inb (x3 + (2 : Int32)) N) <|
  grd (inb (x3 + (3 : Int32)) N) <|
  lcl h0 M1 (gK M2 x2 = 14) (F_X12_soil M2 x2 (xs (ixn (x3 + (1 : Int32)))) (xs (ixn (x3 + (2 : Int32)))) (xs (ixn (x3 + (3 : Int32))))) fun M5 M4 r6 =>
  if r3 = r6 then
  (F_law_p1191 h0 N xs k18) M4 M5 x1 x2 x3
  else
  none
def F_law_p301 (h0 N : Nat) (xs : Nat → Int32) (k18 : Mem → Mem → Nat → Nat → Int32 → Option Unit) (M1 M2 : Mem) (x1 : Nat) (x2 : Nat) (x3 : Int32) : Option Unit :=
  grd (inb (x3 + (1 : Int32)) N) <|
  lcl h0 M2 (gK M1 x1 = 13) (F_X11_share M1 x1 (xs (ixn (x3 + (1 : Int32))))) fun M1 M2 r3 =>
  grd (inb (x3 + (1 : Int32)) N) <|
  lcl h0 M1 (gK M2 x2 = 14) (F_X12_share M2 x2 (xs (ixn (x3 + (1 : Int32))))) fun M5 M4 r6 =>
  if r3 = r6 then
  (F_law_p1191 h0 N xs k18) M4 M5 x1 x2 x3
  else
  none
def F_law_p365 (h0 N : Nat) (xs : Nat → Int32) (k18 : Mem → Mem → Nat → Nat → Int32 → Option Unit) (M1 M2 : Mem) (x1 : Nat) (x2 : Nat) (x3 : Int32) (y0 : Int32) (y1 : Nat) (y2 : Int32) (y3 : Int32) : Option Unit :=
  lcl h0 M1 (gK M2 y1 = 14) (F_X12_open M2 y1 y2 y3) fun M2 M1 r3 =>
  if y0 = r3 then
  (F_law_p1191 h0 N xs k18) M1 M2 x1 x2 x3
  else
  none
def F_law_p343 (h0 N : Nat) (xs : Nat → Int32) (k18 : Mem → Mem → Nat → Nat → Int32 → Option Unit) (M1 M2 : Mem) (x1 : Nat) (x2 : Nat) (x3 : Int32) (y0 : Nat) (y1 : Int32) (y2 : Int32) : Option Unit :=
  lcl h0 M2 (gK M1 y0 = 13) (F_X11_open M1 y0 y1 y2) fun M1 M2 r3 =>
  grd (inb (x3 + (1 : Int32)) N) <|
  grd (inb (x3 + (2 : Int32)) N) <|
  if (xs (ixn (x3 + (2 : Int32)))) = 0 then
  (F_law_p365 h0 N xs k18) M1 M2 x1 x2 x3 r3 x2 (xs (ixn (x3 + (1 : Int32)))) (0 : Int32)
  else
  (F_law_p365 h0 N xs k18) M1 M2 x1 x2 x3 r3 x2 (xs (ixn (x3 + (1 : Int32)))) (1 : Int32)
def F_law_p324 (h0 N : Nat) (xs : Nat → Int32) (k18 : Mem → Mem → Nat → Nat → Int32 → Option Unit) (M1 M2 : Mem) (x1 : Nat) (x2 : Nat) (x3 : Int32) : Option Unit :=
  grd (inb (x3 + (1 : Int32)) N) <|
  grd (inb (x3 + (2 : Int32)) N) <|
  if (xs (ixn (x3 + (2 : Int32)))) = 0 then
  (F_law_p343 h0 N xs k18) M1 M2 x1 x2 x3 x1 (xs (ixn (x3 + (1 : Int32)))) (0 : Int32)
  else
  (F_law_p343 h0 N xs k18) M1 M2 x1 x2 x3 x1 (xs (ixn (x3 + (1 : Int32)))) (1 : Int32)
def F_law_p373 (h0 N : Nat) (xs : Nat → Int32) (k18 : Mem → Mem → Nat → Nat → Int32 → Option Unit) (M1 M2 : Mem) (x1 : Nat) (x2 : Nat) (x3 : Int32) : Option Unit :=
  grd (inb (x3 + (1 : Int32)) N) <|
  grd (inb (x3 + (2 : Int32)) N) <|
  lcl h0 M2 (gK M1 x1 = 13) (F_X11_heat M1 x1 (xs (ixn (x3 + (1 : Int32)))) (xs (ixn (x3 + (2 : Int32))))) fun M1 M2 r3 =>
  grd (inb (x3 + (1 : Int32)) N) <|
  grd (inb (x3 + (2 : Int32)) N) <|
  lcl h0 M1 (gK M2 x2 = 14) (F_X12_heat M2 x2 (xs (ixn (x3 + (1 : Int32)))) (xs (ixn (x3 + (2 : Int32))))) fun M5 M4 r6 =>
  if (lg_cmp r3 r6) = 0 then
  (F_law_p1191 h0 N xs k18) M4 M5 x1 x2 x3
  else
  none
def F_law_p407 (h0 N : Nat) (xs : Nat → Int32) (k18 : Mem → Mem → Nat → Nat → Int32 → Option Unit) (M1 M2 : Mem) (x1 : Nat) (x2 : Nat) (x3 : Int32) : Option Unit :=
  grd (inb (x3 + (1 : Int32)) N) <|
  grd (inb (x3 + (2 : Int32)) N) <|
  lcl h0 M2 (gK M1 x1 = 13) (F_X11_warmth M1 x1 (xs (ixn (x3 + (1 : Int32)))) (xs (ixn (x3 + (2 : Int32))))) fun M1 M2 r3 =>
  grd (inb (x3 + (1 : Int32)) N) <|
  grd (inb (x3 + (2 : Int32)) N) <|
  lcl h0 M1 (gK M2 x2 = 14) (F_X12_warmth M2 x2 (xs (ixn (x3 + (1 : Int32)))) (xs (ixn (x3 + (2 : Int32))))) fun M5 M4 r6 =>
  if (lg_cmp r3 r6) = 0 then
  (F_law_p1191 h0 N xs k18) M4 M5 x1 x2 x3
  else
  none
def F_law_p441 (h0 N : Nat) (xs : Nat → Int32) (k18 : Mem → Mem → Nat → Nat → Int32 → Option Unit) (M1 M2 : Mem) (x1 : Nat) (x2 : Nat) (x3 : Int32) : Option Unit :=
  grd (inb (x3 + (1 : Int32)) N) <|
  lcl h0 M2 (gK M1 x1 = 13) (F_X11_frozen M1 x1 (xs (ixn (x3 + (1 : Int32))))) fun M1 M2 r3 =>
  grd (inb (x3 + (1 : Int32)) N) <|
  lcl h0 M1 (gK M2 x2 = 14) (F_X12_frozen M2 x2 (xs (ixn (x3 + (1 : Int32))))) fun M5 M4 r6 =>
  if r3 = r6 then
  (F_law_p1191 h0 N xs k18) M4 M5 x1 x2 x3
  else
  none
def F_law_p464 (h0 N : Nat) (xs : Nat → Int32) (k18 : Mem → Mem → Nat → Nat → Int32 → Option Unit) (M1 M2 : Mem) (x1 : Nat) (x2 : Nat) (x3 : Int32) : Option Unit :=
  grd (inb (x3 + (1 : Int32)) N) <|
  grd (inb (x3 + (2 : Int32)) N) <|
  grd (inb (x3 + (3 : Int32)) N) <|
  lcl h0 M2 (gK M1 x1 = 13) (F_X11_house M1 x1 (xs (ixn (x3 + (1 : Int32)))) (xs (ixn (x3 + (2 : Int32)))) (xs (ixn (x3 + (3 : Int32))))) fun M1 M2 r3 =>
  grd (inb (x3 + (1 : Int32)) N) <|
  grd (inb (x3 + (2 : Int32)) N) <|
  grd (inb (x3 + (3 : Int32)) N) <|
  lcl h0 M1 (gK M2 x2 = 14) (F_X12_house M2 x2 (xs (ixn (x3 + (1 : Int32)))) (xs (ixn (x3 + (2 : Int32)))) (xs (ixn (x3 + (3 : Int32))))) fun M5 M4 r6 =>
  if r3 = r6 then
  (F_law_p1191 h0 N xs k18) M4 M5 x1 x2 x3
  else
  none
def F_law_p507 (h0 N : Nat) (xs : Nat → Int32) (k18 : Mem → Mem → Nat → Nat → Int32 → Option Unit) (M1 M2 : Mem) (x1 : Nat) (x2 : Nat) (x3 : Int32) : Option Unit :=
  grd (inb (x3 + (1 : Int32)) N) <|
  grd (inb (x3 + (2 : Int32)) N) <|
  lcl h0 M2 (gK M1 x1 = 13) (F_X11_join M1 x1 (xs (ixn (x3 + (1 : Int32)))) (xs (ixn (x3 + (2 : Int32))))) fun M1 M2 r3 =>
  grd (inb (x3 + (1 : Int32)) N) <|
  grd (inb (x3 + (2 : Int32)) N) <|
  lcl h0 M1 (gK M2 x2 = 14) (F_X12_join M2 x2 (xs (ixn (x3 + (1 : Int32)))) (xs (ixn (x3 + (2 : Int32))))) fun M5 M4 r6 =>
  if r3 = r6 then
  (F_law_p1191 h0 N xs k18) M4 M5 x1 x2 x3
  else
  none
def F_law_p540 (h0 N : Nat) (xs : Nat → Int32) (k18 : Mem → Mem → Nat → Nat → Int32 → Option Unit) (M1 M2 : Mem) (x1 : Nat) (x2 : Nat) (x3 : Int32) : Option Unit :=
  grd (inb (x3 + (1 : Int32)) N) <|
  grd (inb (x3 + (2 : Int32)) N) <|
  lcl h0 M2 (gK M1 x1 = 13) (F_X11_cold M1 x1 (xs (ixn (x3 + (1 : Int32)))) (xs (ixn (x3 + (2 : Int32))))) fun M1 M2 r3 =>
  grd (inb (x3 + (1 : Int32)) N) <|
  grd (inb (x3 + (2 : Int32)) N) <|
  lcl h0 M1 (gK M2 x2 = 14) (F_X12_cold M2 x2 (xs (ixn (x3 + (1 : Int32)))) (xs (ixn (x3 + (2 : Int32))))) fun M5 M4 r6 =>
  if r3 = r6 then
  (F_law_p1191 h0 N xs k18) M4 M5 x1 x2 x3
  else
  none
def F_law_p573 (h0 N : Nat) (xs : Nat → Int32) (k18 : Mem → Mem → Nat → Nat → Int32 → Option Unit) (M1 M2 : Mem) (x1 : Nat) (x2 : Nat) (x3 : Int32) : Option Unit :=
  grd (inb (x3 + (1 : Int32)) N) <|
  lcl h0 M2 (gK M1 x1 = 13) (F_X11_need M1 x1 (xs (ixn (x3 + (1 : Int32))))) fun M1 M2 r3 =>
  grd (inb (x3 + (1 : Int32)) N) <|
  lcl h0 M1 (gK M2 x2 = 14) (F_X12_need M2 x2 (xs (ixn (x3 + (1 : Int32))))) fun M5 M4 r6 =>
  if (lg_cmp r3 r6) = 0 then
  (F_law_p1191 h0 N xs k18) M4 M5 x1 x2 x3
  else
  none
def F_law_p597 (h0 N : Nat) (xs : Nat → Int32) (k18 : Mem → Mem → Nat → Nat → Int32 → Option Unit) (M1 M2 : Mem) (x1 : Nat) (x2 : Nat) (x3 : Int32) : Option Unit :=
  grd (inb (x3 + (1 : Int32)) N) <|
  grd (inb (x3 + (2 : Int32)) N) <|
  lcl h0 M2 (gK M1 x1 = 13) (F_X11_point M1 x1 (xs (ixn (x3 + (1 : Int32)))) (xs (ixn (x3 + (2 : Int32))))) fun M1 M2 r3 =>
  grd (inb (x3 + (1 : Int32)) N) <|
  grd (inb (x3 + (2 : Int32)) N) <|
  lcl h0 M1 (gK M2 x2 = 14) (F_X12_point M2 x2 (xs (ixn (x3 + (1 : Int32)))) (xs (ixn (x3 + (2 : Int32))))) fun M5 M4 r6 =>
  if r3 = r6 then
  (F_law_p1191 h0 N xs k18) M4 M5 x1 x2 x3
  else
  none
def F_law_p630 (h0 N : Nat) (xs : Nat → Int32) (k18 : Mem → Mem → Nat → Nat → Int32 → Option Unit) (M1 M2 : Mem) (x1 : Nat) (x2 : Nat) (x3 : Int32) : Option Unit :=
  lcl h0 M2 (gK M1 x1 = 13) (F_X11_untable M1 x1) fun M1 M2 r3 =>
  lcl h0 M1 (gK M2 x2 = 14) (F_X12_untable M2 x2) fun M5 M4 r6 =>
  if r3 = r6 then
  (F_law_p1191 h0 N xs k18) M4 M5 x1 x2 x3
  else
  none
def F_law_p643 (h0 N : Nat) (xs : Nat → Int32) (k18 : Mem → Mem → Nat → Nat → Int32 → Option Unit) (M1 M2 : Mem) (x1 : Nat) (x2 : Nat) (x3 : Int32) : Option Unit :=
  grd (inb (x3 + (1 : Int32)) N) <|
  lcl h0 M2 (gK M1 x1 = 13) (F_X11_lift M1 x1 (xs (ixn (x3 + (1 : Int32))))) fun M1 M2 r3 =>
  grd (inb (x3 + (1 : Int32)) N) <|
  lcl h0 M1 (gK M2 x2 = 14) (F_X12_lift M2 x2 (xs (ixn (x3 + (1 : Int32))))) fun M5 M4 r6 =>
  if r3 = r6 then
  (F_law_p1191 h0 N xs k18) M4 M5 x1 x2 x3
  else
  none
def F_law_p666 (h0 N : Nat) (xs : Nat → Int32) (k18 : Mem → Mem → Nat → Nat → Int32 → Option Unit) (M1 M2 : Mem) (x1 : Nat) (x2 : Nat) (x3 : Int32) : Option Unit :=
  grd (inb (x3 + (1 : Int32)) N) <|
  grd (inb (x3 + (2 : Int32)) N) <|
  lcl h0 M2 (gK M1 x1 = 13) (F_X11_price M1 x1 (xs (ixn (x3 + (1 : Int32)))) (xs (ixn (x3 + (2 : Int32))))) fun M1 M2 r3 =>
  grd (inb (x3 + (1 : Int32)) N) <|
  grd (inb (x3 + (2 : Int32)) N) <|
  lcl h0 M1 (gK M2 x2 = 14) (F_X12_price M2 x2 (xs (ixn (x3 + (1 : Int32)))) (xs (ixn (x3 + (2 : Int32))))) fun M5 M4 r6 =>
  if r3 = r6 then
  (F_law_p1191 h0 N xs k18) M4 M5 x1 x2 x3
  else
  none
def F_law_p699 (h0 N : Nat) (xs : Nat → Int32) (k18 : Mem → Mem → Nat → Nat → Int32 → Option Unit) (M1 M2 : Mem) (x1 : Nat) (x2 : Nat) (x3 : Int32) : Option Unit :=
  grd (inb (x3 + (1 : Int32)) N) <|
  grd (inb (x3 + (2 : Int32)) N) <|
  lcl h0 M2 (gK M1 x1 = 13) (F_X11_sun M1 x1 (xs (ixn (x3 + (1 : Int32)))) (xs (ixn (x3 + (2 : Int32))))) fun M1 M2 r3 =>
  grd (inb (x3 + (1 : Int32)) N) <|
  grd (inb (x3 + (2 : Int32)) N) <|
  lcl h0 M1 (gK M2 x2 = 14) (F_X12_sun M2 x2 (xs (ixn (x3 + (1 : Int32)))) (xs (ixn (x3 + (2 : Int32))))) fun M5 M4 r6 =>
  if r3 = r6 then
  (F_law_p1191 h0 N xs k18) M4 M5 x1 x2 x3
  else
  none
def F_law_p732 (h0 N : Nat) (xs : Nat → Int32) (k18 : Mem → Mem → Nat → Nat → Int32 → Option Unit) (M1 M2 : Mem) (x1 : Nat) (x2 : Nat) (x3 : Int32) : Option Unit :=
  grd (inb (x3 + (1 : Int32)) N) <|
  grd (inb (x3 + (2 : Int32)) N) <|
  grd (inb (x3 + (3 : Int32)) N) <|
  lcl h0 M2 (gK M1 x1 = 13) (F_X11_feed M1 x1 (xs (ixn (x3 + (1 : Int32)))) ((((xs (ixn (x3 + (2 : Int32)))).toInt64) <<< ((32 : Int32).toInt64 &&& 63)) ||| (((xs (ixn (x3 + (3 : Int32)))).toInt64) &&& (4294967295 : Int64)))) fun M1 M2 r3 =>
  grd (inb (x3 + (1 : Int32)) N) <|
  grd (inb (x3 + (2 : Int32)) N) <|
  grd (inb (x3 + (3 : Int32)) N) <|
  lcl h0 M1 (gK M2 x2 = 14) (F_X12_feed M2 x2 (xs (ixn (x3 + (1 : Int32)))) ((((xs (ixn (x3 + (2 : Int32)))).toInt64) <<< ((32 : Int32).toInt64 &&& 63)) ||| (((xs (ixn (x3 + (3 : Int32)))).toInt64) &&& (4294967295 : Int64)))) fun M5 M4 r6 =>
  if r3 = r6 then
  (F_law_p1191 h0 N xs k18) M4 M5 x1 x2 x3
  else
  none
def F_law_p795 (h0 N : Nat) (xs : Nat → Int32) (k18 : Mem → Mem → Nat → Nat → Int32 → Option Unit) (M1 M2 : Mem) (x1 : Nat) (x2 : Nat) (x3 : Int32) : Option Unit :=
  grd (inb (x3 + (1 : Int32)) N) <|
  grd (inb (x3 + (2 : Int32)) N) <|
  lcl h0 M2 (gK M1 x1 = 13) (F_X11_rule M1 x1 (xs (ixn (x3 + (1 : Int32)))) (xs (ixn (x3 + (2 : Int32))))) fun M1 M2 r3 =>
  grd (inb (x3 + (1 : Int32)) N) <|
  grd (inb (x3 + (2 : Int32)) N) <|
  lcl h0 M1 (gK M2 x2 = 14) (F_X12_rule M2 x2 (xs (ixn (x3 + (1 : Int32)))) (xs (ixn (x3 + (2 : Int32))))) fun M5 M4 r6 =>
  if r3 = r6 then
  (F_law_p1191 h0 N xs k18) M4 M5 x1 x2 x3
  else
  none
def F_law_p828 (h0 N : Nat) (xs : Nat → Int32) (k18 : Mem → Mem → Nat → Nat → Int32 → Option Unit) (M1 M2 : Mem) (x1 : Nat) (x2 : Nat) (x3 : Int32) : Option Unit :=
  grd (inb (x3 + (1 : Int32)) N) <|
  grd (inb (x3 + (2 : Int32)) N) <|
  lcl h0 M2 (gK M1 x1 = 13) (F_X11_may M1 x1 (xs (ixn (x3 + (1 : Int32)))) (xs (ixn (x3 + (2 : Int32))))) fun M1 M2 r3 =>
  grd (inb (x3 + (1 : Int32)) N) <|
  grd (inb (x3 + (2 : Int32)) N) <|
  lcl h0 M1 (gK M2 x2 = 14) (F_X12_may M2 x2 (xs (ixn (x3 + (1 : Int32)))) (xs (ixn (x3 + (2 : Int32))))) fun M5 M4 r6 =>
  if r3 = r6 then
  (F_law_p1191 h0 N xs k18) M4 M5 x1 x2 x3
  else
  none
def F_law_p861 (h0 N : Nat) (xs : Nat → Int32) (k18 : Mem → Mem → Nat → Nat → Int32 → Option Unit) (M1 M2 : Mem) (x1 : Nat) (x2 : Nat) (x3 : Int32) : Option Unit :=
  grd (inb (x3 + (1 : Int32)) N) <|
  lcl h0 M2 (gK M1 x1 = 13) (F_X11_told M1 x1 (xs (ixn (x3 + (1 : Int32))))) fun M1 M2 r3 =>
  grd (inb (x3 + (1 : Int32)) N) <|
  lcl h0 M1 (gK M2 x2 = 14) (F_X12_told M2 x2 (xs (ixn (x3 + (1 : Int32))))) fun M5 M4 r6 =>
  if (lg_cmp r3 r6) = 0 then
  (F_law_p1191 h0 N xs k18) M4 M5 x1 x2 x3
  else
  none
def F_law_p885 (h0 N : Nat) (xs : Nat → Int32) (k18 : Mem → Mem → Nat → Nat → Int32 → Option Unit) (M1 M2 : Mem) (x1 : Nat) (x2 : Nat) (x3 : Int32) : Option Unit :=
  grd (inb (x3 + (1 : Int32)) N) <|
  lcl h0 M2 (gK M1 x1 = 13) (F_X11_given M1 x1 (xs (ixn (x3 + (1 : Int32))))) fun M1 M2 r3 =>
  grd (inb (x3 + (1 : Int32)) N) <|
  lcl h0 M1 (gK M2 x2 = 14) (F_X12_given M2 x2 (xs (ixn (x3 + (1 : Int32))))) fun M5 M4 r6 =>
  if (lg_cmp r3 r6) = 0 then
  (F_law_p1191 h0 N xs k18) M4 M5 x1 x2 x3
  else
  none
def F_law_p909 (h0 N : Nat) (xs : Nat → Int32) (k18 : Mem → Mem → Nat → Nat → Int32 → Option Unit) (M1 M2 : Mem) (x1 : Nat) (x2 : Nat) (x3 : Int32) : Option Unit :=
  grd (inb (x3 + (1 : Int32)) N) <|
  grd (inb (x3 + (2 : Int32)) N) <|
  grd (inb (x3 + (3 : Int32)) N) <|
  lcl h0 M2 (gK M1 x1 = 13) (F_X11_ahead M1 x1 (xs (ixn (x3 + (1 : Int32)))) (xs (ixn (x3 + (2 : Int32)))) (xs (ixn (x3 + (3 : Int32))))) fun M1 M2 r3 =>
  grd (inb (x3 + (1 : Int32)) N) <|
  grd (inb (x3 + (2 : Int32)) N) <|
  grd (inb (x3 + (3 : Int32)) N) <|
  lcl h0 M1 (gK M2 x2 = 14) (F_X12_ahead M2 x2 (xs (ixn (x3 + (1 : Int32)))) (xs (ixn (x3 + (2 : Int32)))) (xs (ixn (x3 + (3 : Int32))))) fun M5 M4 r6 =>
  if (lg_cmp r3 r6) = 0 then
  (F_law_p1191 h0 N xs k18) M4 M5 x1 x2 x3
  else
  none
def F_law_p953 (h0 N : Nat) (xs : Nat → Int32) (k18 : Mem → Mem → Nat → Nat → Int32 → Option Unit) (M1 M2 : Mem) (x1 : Nat) (x2 : Nat) (x3 : Int32) : Option Unit :=
  grd (inb (x3 + (1 : Int32)) N) <|
  grd (inb (x3 + (2 : Int32)) N) <|
  lcl h0 M2 (gK M1 x1 = 13) (F_X11_few M1 x1 (xs (ixn (x3 + (1 : Int32)))) (xs (ixn (x3 + (2 : Int32))))) fun M1 M2 r3 =>
  grd (inb (x3 + (1 : Int32)) N) <|
  grd (inb (x3 + (2 : Int32)) N) <|
  lcl h0 M1 (gK M2 x2 = 14) (F_X12_few M2 x2 (xs (ixn (x3 + (1 : Int32)))) (xs (ixn (x3 + (2 : Int32))))) fun M5 M4 r6 =>
  if r3 = r6 then
  (F_law_p1191 h0 N xs k18) M4 M5 x1 x2 x3
  else
  none
def F_law_p986 (h0 N : Nat) (xs : Nat → Int32) (k18 : Mem → Mem → Nat → Nat → Int32 → Option Unit) (M1 M2 : Mem) (x1 : Nat) (x2 : Nat) (x3 : Int32) : Option Unit :=
  grd (inb (x3 + (1 : Int32)) N) <|
  grd (inb (x3 + (2 : Int32)) N) <|
  grd (inb (x3 + (3 : Int32)) N) <|
  lcl h0 M2 (gK M1 x1 = 13) (F_X11_takenFrom M1 x1 (xs (ixn (x3 + (1 : Int32)))) (xs (ixn (x3 + (2 : Int32)))) (xs (ixn (x3 + (3 : Int32))))) fun M1 M2 r3 =>
  grd (inb (x3 + (1 : Int32)) N) <|
  grd (inb (x3 + (2 : Int32)) N) <|
  grd (inb (x3 + (3 : Int32)) N) <|
  lcl h0 M1 (gK M2 x2 = 14) (F_X12_takenFrom M2 x2 (xs (ixn (x3 + (1 : Int32)))) (xs (ixn (x3 + (2 : Int32)))) (xs (ixn (x3 + (3 : Int32))))) fun M5 M4 r6 =>
  if (lg_cmp r3 r6) = 0 then
  (F_law_p1191 h0 N xs k18) M4 M5 x1 x2 x3
  else
  none
def F_law_p1030 (h0 N : Nat) (xs : Nat → Int32) (k18 : Mem → Mem → Nat → Nat → Int32 → Option Unit) (M1 M2 : Mem) (x1 : Nat) (x2 : Nat) (x3 : Int32) : Option Unit :=
  grd (inb (x3 + (1 : Int32)) N) <|
  grd (inb (x3 + (2 : Int32)) N) <|
  lcl h0 M2 (gK M1 x1 = 13) (F_X11_tank M1 x1 (xs (ixn (x3 + (1 : Int32)))) (xs (ixn (x3 + (2 : Int32))))) fun M1 M2 r3 =>
  grd (inb (x3 + (1 : Int32)) N) <|
  grd (inb (x3 + (2 : Int32)) N) <|
  lcl h0 M1 (gK M2 x2 = 14) (F_X12_tank M2 x2 (xs (ixn (x3 + (1 : Int32)))) (xs (ixn (x3 + (2 : Int32))))) fun M5 M4 r6 =>
  if r3 = r6 then
  (F_law_p1191 h0 N xs k18) M4 M5 x1 x2 x3
  else
  none
def F_law_p1063 (h0 N : Nat) (xs : Nat → Int32) (k18 : Mem → Mem → Nat → Nat → Int32 → Option Unit) (M1 M2 : Mem) (x1 : Nat) (x2 : Nat) (x3 : Int32) : Option Unit :=
  grd (inb (x3 + (1 : Int32)) N) <|
  lcl h0 M2 (gK M1 x1 = 13) (F_X11_best M1 x1 (xs (ixn (x3 + (1 : Int32))))) fun M1 M2 r3 =>
  grd (inb (x3 + (1 : Int32)) N) <|
  lcl h0 M1 (gK M2 x2 = 14) (F_X12_best M2 x2 (xs (ixn (x3 + (1 : Int32))))) fun M5 M4 r6 =>
  if (lg_cmp r3 r6) = 0 then
  (F_law_p1191 h0 N xs k18) M4 M5 x1 x2 x3
  else
  none
def F_law_p1087 (h0 N : Nat) (xs : Nat → Int32) (k18 : Mem → Mem → Nat → Nat → Int32 → Option Unit) (M1 M2 : Mem) (x1 : Nat) (x2 : Nat) (x3 : Int32) : Option Unit :=
  grd (inb (x3 + (1 : Int32)) N) <|
  grd (inb (x3 + (2 : Int32)) N) <|
  lcl h0 M2 (gK M1 x1 = 13) (F_X11_reading M1 x1 (xs (ixn (x3 + (1 : Int32)))) (xs (ixn (x3 + (2 : Int32))))) fun M1 M2 r3 =>
  grd (inb (x3 + (1 : Int32)) N) <|
  grd (inb (x3 + (2 : Int32)) N) <|
  lcl h0 M1 (gK M2 x2 = 14) (F_X12_reading M2 x2 (xs (ixn (x3 + (1 : Int32)))) (xs (ixn (x3 + (2 : Int32))))) fun M5 M4 r6 =>
  if r3 = r6 then
  (F_law_p1191 h0 N xs k18) M4 M5 x1 x2 x3
  else
  none
def F_law_p1120 (h0 N : Nat) (xs : Nat → Int32) (k18 : Mem → Mem → Nat → Nat → Int32 → Option Unit) (M1 M2 : Mem) (x1 : Nat) (x2 : Nat) (x3 : Int32) : Option Unit :=
  grd (inb (x3 + (1 : Int32)) N) <|
  lcl h0 M2 (gK M1 x1 = 13) (F_X11_wrong M1 x1 (xs (ixn (x3 + (1 : Int32))))) fun M1 M2 r3 =>
  grd (inb (x3 + (1 : Int32)) N) <|
  lcl h0 M1 (gK M2 x2 = 14) (F_X12_wrong M2 x2 (xs (ixn (x3 + (1 : Int32))))) fun M5 M4 r6 =>
  if (lg_cmp r3 r6) = 0 then
  (F_law_p1191 h0 N xs k18) M4 M5 x1 x2 x3
  else
  none
def F_law_p1144 (h0 N : Nat) (xs : Nat → Int32) (k18 : Mem → Mem → Nat → Nat → Int32 → Option Unit) (M1 M2 : Mem) (x1 : Nat) (x2 : Nat) (x3 : Int32) : Option Unit :=
  grd (inb (x3 + (1 : Int32)) N) <|
  lcl h0 M2 (gK M1 x1 = 13) (F_X11_leak M1 x1 (xs (ixn (x3 + (1 : Int32))))) fun M1 M2 r3 =>
  grd (inb (x3 + (1 : Int32)) N) <|
  lcl h0 M1 (gK M2 x2 = 14) (F_X12_leak M2 x2 (xs (ixn (x3 + (1 : Int32))))) fun M5 M4 r6 =>
  if (lg_cmp r3 r6) = 0 then
  (F_law_p1191 h0 N xs k18) M4 M5 x1 x2 x3
  else
  none
def F_law_p1168 (h0 N : Nat) (xs : Nat → Int32) (k18 : Mem → Mem → Nat → Nat → Int32 → Option Unit) (M1 M2 : Mem) (x1 : Nat) (x2 : Nat) (x3 : Int32) : Option Unit :=
  grd (inb (x3 + (1 : Int32)) N) <|
  lcl h0 M2 (gK M1 x1 = 13) (F_X11_count M1 x1 (xs (ixn (x3 + (1 : Int32))))) fun M1 M2 r3 =>
  grd (inb (x3 + (1 : Int32)) N) <|
  lcl h0 M1 (gK M2 x2 = 14) (F_X12_count M2 x2 (xs (ixn (x3 + (1 : Int32))))) fun M5 M4 r6 =>
  if r3 = r6 then
  (F_law_p1191 h0 N xs k18) M4 M5 x1 x2 x3
  else
  none
def F_law_p18 (h0 N : Nat) (xs : Nat → Int32) : Nat → Mem → Mem → Nat → Nat → Int32 → Option Unit
  | 0, _, _, _, _, _ => none
  | n + 1, M1, M2, x1, x2, x3 =>
    if ((Int32.ofNat N) - (6 : Int32)) < x3 then
    some ()
    else
    grd (inb x3 N) <|
    swi ((xs (ixn x3)) &&& (31 : Int32)) 0 [(F_law_p172 h0 N xs (F_law_p18 h0 N xs n)) M1 M2 x1 x2 x3,
    (F_law_p195 h0 N xs (F_law_p18 h0 N xs n)) M1 M2 x1 x2 x3,
    (F_law_p258 h0 N xs (F_law_p18 h0 N xs n)) M1 M2 x1 x2 x3,
    (F_law_p301 h0 N xs (F_law_p18 h0 N xs n)) M1 M2 x1 x2 x3,
    (F_law_p324 h0 N xs (F_law_p18 h0 N xs n)) M1 M2 x1 x2 x3,
    (F_law_p373 h0 N xs (F_law_p18 h0 N xs n)) M1 M2 x1 x2 x3,
    (F_law_p407 h0 N xs (F_law_p18 h0 N xs n)) M1 M2 x1 x2 x3,
    (F_law_p441 h0 N xs (F_law_p18 h0 N xs n)) M1 M2 x1 x2 x3,
    (F_law_p464 h0 N xs (F_law_p18 h0 N xs n)) M1 M2 x1 x2 x3,
    (F_law_p507 h0 N xs (F_law_p18 h0 N xs n)) M1 M2 x1 x2 x3,
    (F_law_p540 h0 N xs (F_law_p18 h0 N xs n)) M1 M2 x1 x2 x3,
    (F_law_p573 h0 N xs (F_law_p18 h0 N xs n)) M1 M2 x1 x2 x3,
    (F_law_p597 h0 N xs (F_law_p18 h0 N xs n)) M1 M2 x1 x2 x3,
    (F_law_p630 h0 N xs (F_law_p18 h0 N xs n)) M1 M2 x1 x2 x3,
    (F_law_p643 h0 N xs (F_law_p18 h0 N xs n)) M1 M2 x1 x2 x3,
    (F_law_p666 h0 N xs (F_law_p18 h0 N xs n)) M1 M2 x1 x2 x3,
    (F_law_p699 h0 N xs (F_law_p18 h0 N xs n)) M1 M2 x1 x2 x3,
    (F_law_p732 h0 N xs (F_law_p18 h0 N xs n)) M1 M2 x1 x2 x3,
    (F_law_p795 h0 N xs (F_law_p18 h0 N xs n)) M1 M2 x1 x2 x3,
    (F_law_p828 h0 N xs (F_law_p18 h0 N xs n)) M1 M2 x1 x2 x3,
    (F_law_p861 h0 N xs (F_law_p18 h0 N xs n)) M1 M2 x1 x2 x3,
    (F_law_p885 h0 N xs (F_law_p18 h0 N xs n)) M1 M2 x1 x2 x3,
    (F_law_p909 h0 N xs (F_law_p18 h0 N xs n)) M1 M2 x1 x2 x3,
    (F_law_p953 h0 N xs (F_law_p18 h0 N xs n)) M1 M2 x1 x2 x3,
    (F_law_p986 h0 N xs (F_law_p18 h0 N xs n)) M1 M2 x1 x2 x3,
    (F_law_p1030 h0 N xs (F_law_p18 h0 N xs n)) M1 M2 x1 x2 x3,
    (F_law_p1063 h0 N xs (F_law_p18 h0 N xs n)) M1 M2 x1 x2 x3,
    (F_law_p1087 h0 N xs (F_law_p18 h0 N xs n)) M1 M2 x1 x2 x3,
    (F_law_p1120 h0 N xs (F_law_p18 h0 N xs n)) M1 M2 x1 x2 x3,
    (F_law_p1144 h0 N xs (F_law_p18 h0 N xs n)) M1 M2 x1 x2 x3,
    (F_law_p1168 h0 N xs (F_law_p18 h0 N xs n)) M1 M2 x1 x2 x3] (
    (F_law_p1191 h0 N xs (F_law_p18 h0 N xs n)) M1 M2 x1 x2 x3)
def F_law (h0 N : Nat) (xs : Nat → Int32) (M1 M2 : Mem) : Option Unit :=
  lnew h0 M2 M1 13 11 fun b1 M2 M3 =>
  lcl h0 M3 (gK M2 b1 = 13) (F_X11_init M2 b1) fun M4 M5 _ =>
  lnew h0 M4 M5 14 58 fun b7 M9 M8 =>
  lcl h0 M8 (gK M9 b7 = 14) (F_X12_init M9 b7) fun M11 M10 _ =>
  (F_law_p18 h0 N xs FU) M10 M11 b1 b7 (0 : Int32)
