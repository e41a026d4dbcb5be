abbrev P_X11_cut : MP := (RX11, cX11_cut, 4, (some .long), 0, 0)
def F_X11_cut_p13 (M : Mem) (y0 : Int64) : Option (Mem × Int64) :=
  some (M, y0)
def F_X11_cut (M : Mem) (a0 : Int64) (a1 : Int64) : Option (Mem × Int64) :=
  if (lg_cmp a1 (0 : Int64)) = 0 then
  F_X11_cut_p13 M (0 : Int64)
  else
  grd (¬ a1 = 0) <|
  F_X11_cut_p13 M (a0 / a1)
abbrev P_X4_follow : MP := (RX4, cX4_follow, 2, none, 0, 0)
def F_X4_follow (M : Mem) (a0 : Nat) (a1 : Nat) : Option (Mem × Unit) :=
  bnd (sJ M 502 a0 (gJ M 502 a1)) fun M1 =>
  bnd (sJ M1 503 a0 (gJ M1 503 a1)) fun M2 =>
  bnd (sJ M2 504 a0 (0 : Int64)) fun M3 =>
  some (M3, ())
abbrev P_X4_init : MP := (RX4, cX4_init, 5, none, 1, 23)
def F_X4_init (M : Mem) (a0 : Nat) (a1 : Int64) (a2 : Int64) : Option (Mem × Unit) :=
  bnd (sJ M 500 a0 a1) fun M1 =>
  bnd (sJ M1 501 a0 (((1000 : Int64) * a2) * a1)) fun M2 =>
  bnd (sJ M2 502 a0 (gJ M2 501 a0)) fun M3 =>
  cl (F_X11_cut M3 (gJ M3 501 a0) a1) fun M4 r5 =>
  bnd (sJ M4 503 a0 r5) fun M6 =>
  some (M6, ())
abbrev P_X4_settle : MP := (RX4, cX4_settle, 1, none, 1, 23)
def F_X4_settle (M : Mem) (a0 : Nat) : Option (Mem × Unit) :=
  bnd (sJ M 502 a0 ((gJ M 502 a0) + (gJ M 504 a0))) fun M1 =>
  bnd (sJ M1 504 a0 (0 : Int64)) fun M2 =>
  cl (F_X11_cut M2 (gJ M2 502 a0) (gJ M2 500 a0)) fun M3 r4 =>
  bnd (sJ M3 503 a0 r4) fun M5 =>
  some (M5, ())
