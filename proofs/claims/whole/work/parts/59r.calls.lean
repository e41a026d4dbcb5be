theorem m_ring_yes {o : Nat} {W : Mem} (hI : MI o W) {b k : Nat} (hb : b < nbW W o) (hk : k < rgW W o b) : F_X12_isRing W o (Int32.ofNat b) (Int32.ofNat k) = some (W, 1) := by
  have hS := hI.sh
  have h8 := hI.nb8
  have hr8 := hI.rg8 hb
  have i1 : inb (Int32.ofNat b) 8 := ofN_inb (by omega) (by omega)
  have i2 : ixn (Int32.ofNat b) = b := ofN_ix (by omega)
  unfold F_X12_isRing F_X12_isRing_p31
  rw [m_isBore hI.nb h8, cl_some, if_pos (isB_nat hb (by omega))]
  dsimp only
  rw [if_neg (by decide), hS.r1305, lr_some hS.k4, hS.n4, grd_pos i1, i2, m_in, cl_some, hI.rg hb, if_pos ((in_n (by omega) _).mpr (isB_nat hk (by omega)))]
  rfl
theorem m_ring_no {o : Nat} {W : Mem} (hI : MI o W) {b : Nat} (hb : b < nbW W o) {k : Int32} (hk : ¬ isB (rgW W o b) k) : F_X12_isRing W o (Int32.ofNat b) k = some (W, 0) := by
  have hS := hI.sh
  have h8 := hI.nb8
  have hr8 := hI.rg8 hb
  have i1 : inb (Int32.ofNat b) 8 := ofN_inb (by omega) (by omega)
  have i2 : ixn (Int32.ofNat b) = b := ofN_ix (by omega)
  unfold F_X12_isRing F_X12_isRing_p30 F_X12_isRing_p31
  rw [m_isBore hI.nb h8, cl_some, if_pos (isB_nat hb (by omega))]
  dsimp only
  rw [if_neg (by decide), hS.r1305, lr_some hS.k4, hS.n4, grd_pos i1, i2, m_in, cl_some, hI.rg hb, if_neg (fun z => hk ((in_n (by omega) _).mp z))]
  rfl
theorem m_ring_nb {o : Nat} {W : Mem} (hI : MI o W) {b k : Int32} (hb : ¬ isB (nbW W o) b) : F_X12_isRing W o b k = some (W, 0) := by
  unfold F_X12_isRing F_X12_isRing_p30 F_X12_isRing_p31
  rw [m_isBore hI.nb hI.nb8, cl_some, if_neg hb]
  rfl
section RING
variable {x o : Nat} {M W : Mem} {ha ua ba ma ea : Nat → Nat} {ra rb : Nat → Nat → Nat} {tg : Nat → Nat} {hr : Nat}
theorem REL.mi (h : REL x o M W ha ua ba ma ea ra rb tg hr) : MI o W := h.1.1.2.2.1
theorem REL.csh (h : REL x o M W ha ua ba ma ea ra rb tg hr) : CSh x M := h.1.1.1
theorem REL.bos (h : REL x o M W ha ua ba ma ea ra rb tg hr) : BoS (x + 46) M o W ba ra := h.1.1.2.2.2.2.2.2.2.1
theorem REL.boh (h : REL x o M W ha ua ba ma ea ra rb tg hr) : BoH (x + 46) M o W ba := h.1.1.2.2.2.2.2.2.2.2
theorem REL.dr (h : REL x o M W ha ua ba ma ea ra rb tg hr) : DR (x + 46) o M W ba ra hr (gB W (o + 11)) (gB W (o + 12)) (gB W (o + 13)) := h.1.2.1
theorem REL.hor (h : REL x o M W ha ua ba ma ea ra rb tg hr) : HoR x M o W ha := h.1.1.2.2.2.1
theorem REL.tor (h : REL x o M W ha ua ba ma ea ra rb tg hr) : ToR x M o W := h.1.1.2.2.2.2.1
theorem REL.tar (h : REL x o M W ha ua ba ma ea ra rb tg hr) : TaR x M o W := h.1.1.2.2.2.2.2.1
theorem REL.rur (h : REL x o M W ha ua ba ma ea ra rb tg hr) : RuR x M o W ua := h.1.1.2.2.2.2.2.2.1
theorem REL.to (h : REL x o M W ha ua ba ma ea ra rb tg hr) : Rel x o M W := ⟨ha, ua, ba, ma, ea, ra, rb, tg, hr, h⟩
theorem c_ring_yes (h : REL x o M W ha ua ba ma ea ra rb tg hr) {b k : Nat} (hb : b < nbW W o) (hk : k < rgW W o b) : F_X11_findRing M x (Int32.ofNat b) (Int32.ofNat k) = some (M, some (ra b k)) := by
  have hC := h.csh
  have hr8 := h.mi.rg8 hb
  obtain ⟨c1, c2, c3, c4, c5, c6, c7, ⟨l, c8, c9⟩, c10⟩ := h.bos.2.2.2 b hb
  unfold F_X11_findRing
  rw [hC.r1205, lr_some hC.k46, c_find hC.g46 h.mi h.bos hb, cl_some]
  show (if Int32.ofNat k < 0 then _ else _) = _
  rw [if_neg (ofN_n0 (by omega)), grd_pos c1]
  dsimp only
  rw [c8, lr_some c9.1, c_size, cl_some]
  dsimp only
  rw [c9.2.1, if_pos ((ofN_lt (by omega) (by omega)).mpr hk), c8, lr_some c9.1, c_get c9 hk, cl_some]
  exact lr_some (c10 k hk).1
theorem c_ring_no (h : REL x o M W ha ua ba ma ea ra rb tg hr) {b : Nat} (hb : b < nbW W o) {k : Int32} (hk : ¬ isB (rgW W o b) k) : F_X11_findRing M x (Int32.ofNat b) k = some (M, none) := by
  have hC := h.csh
  have hr8 := h.mi.rg8 hb
  obtain ⟨c1, c2, c3, c4, c5, c6, c7, ⟨l, c8, c9⟩, c10⟩ := h.bos.2.2.2 b hb
  unfold F_X11_findRing F_X11_findRing_p28
  rw [hC.r1205, lr_some hC.k46, c_find hC.g46 h.mi h.bos hb, cl_some]
  show (if k < 0 then _ else _) = _
  by_cases d1 : k < 0
  · rw [if_pos d1]
  · rw [if_neg d1, grd_pos c1]
    dsimp only
    rw [c8, lr_some c9.1, c_size, cl_some]
    dsimp only
    rw [c9.2.1]
    have z0 : (0 : Int32).toInt = 0 := by decide
    rw [Int32.lt_iff_toInt_lt, z0] at d1
    rw [if_neg]
    intro d2
    rw [Int32.lt_iff_toInt_lt, ofN_toInt (by omega)] at d2
    exact hk ⟨by omega, by omega⟩
theorem c_ring_nb (h : REL x o M W ha ua ba ma ea ra rb tg hr) {b k : Int32} (hb : ¬ isB (nbW W o) b) : F_X11_findRing M x b k = some (M, none) := by
  have hC := h.csh
  unfold F_X11_findRing F_X11_findRing_p28
  rw [hC.r1205, lr_some hC.k46, c_find_no hC.g46 h.mi h.bos hb, cl_some]
  rfl
end RING
theorem ring_cases {x o : Nat} {M W : Mem} {ρ : Type} {rc rm : Option (Mem × ρ)} (b k : Int32) (hyes : ∀ ha ua ba ma ea ra rb tg hr, REL x o M W ha ua ba ma ea ra rb tg hr → ∀ i j, i < nbW W o → j < rgW W o i → b = Int32.ofNat i → k = Int32.ofNat j → F_X11_findRing M x b k = some (M, some (ra i j)) → F_X12_isRing W o b k = some (W, 1) → OPR x o M W rc rm) (hno : F_X11_findRing M x b k = some (M, none) → F_X12_isRing W o b k = some (W, 0) → OPR x o M W rc rm) (h : Rel x o M W) : OPR x o M W rc rm := by
  obtain ⟨ha, ua, ba, ma, ea, ra, rb, tg, hr, hR⟩ := h
  have hI := hR.mi
  by_cases c1 : isB (nbW W o) b
  · obtain ⟨i, hi, rfl⟩ := isB_of c1
    by_cases c2 : isB (rgW W o i) k
    · obtain ⟨j, hj, rfl⟩ := isB_of c2
      exact hyes ha ua ba ma ea ra rb tg hr hR i j hi hj rfl rfl (c_ring_yes hR hi hj) (m_ring_yes hI hi hj)
    · exact hno (c_ring_no hR hi c2) (m_ring_no hI hi c2)
  · exact hno (c_ring_nb hR c1) (m_ring_nb hI c1)
theorem op_heat {x o : Nat} {M W : Mem} (h : Rel x o M W) (b k : Int32) : OPR x o M W (F_X11_heat M x b k) (F_X12_heat W o b k) := by
  refine ring_cases b k ?_ ?_ h
  · intro ha ua ba ma ea ra rb tg hr hR i j hi hj e1 e2 f1 f2
    have hI := hR.mi
    have hS := hI.sh
    have h8 := hI.nb8
    have hr8 := hI.rg8 hi
    have i1 : inb (Int32.ofNat (8 * i + j)) 64 := ofN_inb (by omega) (by omega)
    have i2 : ixn (Int32.ofNat (8 * i + j)) = 8 * i + j := ofN_ix (by omega)
    refine opr_same (r := gB W (o + 11) (8 * i + j)) h ?_ ?_
    · unfold F_X11_heat F_X11_heat_p23
      rw [f1, cl_some]
      show grd _ _ = _
      rw [grd_pos ((hR.bos.2.2.2 i hi).2.2.2.2.2.2.2.2 j hj).1, hR.dr.2.1 i j hi hj]
    · unfold F_X12_heat F_X12_heat_p28
      rw [f2, cl_some, if_neg (show ¬ (1 : Int32) = 0 by decide), e1, e2, i8, hS.r1313, lr_some hS.k11, hS.n11, grd_pos i1, i2]
  · intro f1 f2
    unfold F_X11_heat F_X12_heat F_X11_heat_p23 F_X12_heat_p28
    rw [f1, f2, cl_some, cl_some, if_pos rfl]
    exact opr_map id (opr_refuseL h rf1 (by omega) (by omega)) (fun _ _ => rfl) (fun _ _ => rfl)
theorem op_warmth {x o : Nat} {M W : Mem} (h : Rel x o M W) (b k : Int32) : OPR x o M W (F_X11_warmth M x b k) (F_X12_warmth W o b k) := by
  refine ring_cases b k ?_ ?_ h
  · intro ha ua ba ma ea ra rb tg hr hR i j hi hj e1 e2 f1 f2
    have hI := hR.mi
    have hS := hI.sh
    have h8 := hI.nb8
    have hr8 := hI.rg8 hi
    refine opr_same (r := wS W o (gB W (o + 11)) i j) h ?_ ?_
    · unfold F_X11_warmth F_X11_warmth_p23
      rw [f1, cl_some]
      show grd _ _ = _
      rw [grd_pos ((hR.bos.2.2.2 i hi).2.2.2.2.2.2.2.2 j hj).1, hR.dr.2.2.1 i j hi hj]
    · unfold F_X12_warmth F_X12_warmth_p23
      rw [f2, cl_some, if_neg (show ¬ (1 : Int32) = 0 by decide), e1, e2, m_warmthOf hS (by omega) (by omega) (hI.hold hi (by omega)), cl_some]
      rfl
  · intro f1 f2
    unfold F_X11_warmth F_X12_warmth F_X11_warmth_p23 F_X12_warmth_p23
    rw [f1, f2, cl_some, cl_some, if_pos rfl]
    exact opr_map id (opr_refuseL h rf1 (by omega) (by omega)) (fun _ _ => rfl) (fun _ _ => rfl)
