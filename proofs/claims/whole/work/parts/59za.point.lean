/-- memories after a point -/
def PTC (M : Mem) (x : Nat) (n : Nat) (u v : Int32) : Mem := sI (sA (sA M (x + 7) n u) (x + 8) n v) 802 (x + 6) (Int32.ofNat (n + 1))
def PTW (W : Mem) (o : Nat) (n : Nat) (u v : Int32) : Mem := sI (sA (sA W (o + 19) n u) (o + 20) n v) 1322 o (Int32.ofNat (n + 1))
theorem r_point {x o : Nat} {M W : Mem} {ha ua ba ma ea : Nat → Nat} {ra rb : Nat → Nat → Nat} {tg : Nat → Nat} {hr : Nat} (hR : REL x o M W ha ua ba ma ea ra rb tg hr) {n : Nat} (hn : npW W o = n) (h8 : n < 8) {u v : Int32} (hu : bt u (-20) 99) (hv : bt v 100 999) (hl : ∀ k, k + 1 = n → (gA W (o + 19) k).toInt < u.toInt) : REL x o (PTC M x n u v) (PTW W o n u v) ha ua ba ma ea ra rb tg hr := by
  have hI := hR.mi
  have hT := hR.tar
  have e19 : gA (PTW W o n u v) (o + 19) = ud (gA W (o + 19)) n u := by
    show gA (sA (sA W (o + 19) n u) (o + 20) n v) (o + 19) = _
    rw [gA_nf (by omega), gA_sf]
  have e20 : gA (PTW W o n u v) (o + 20) = ud (gA W (o + 20)) n v := by
    show gA (sA (sA W (o + 19) n u) (o + 20) n v) (o + 20) = _
    rw [gA_sf, gA_nf (by omega)]
  have e7 : gA (PTC M x n u v) (x + 7) = ud (gA M (x + 7)) n u := by
    show gA (sA (sA M (x + 7) n u) (x + 8) n v) (x + 7) = _
    rw [gA_nf (by omega), gA_sf]
  have e8 : gA (PTC M x n u v) (x + 8) = ud (gA M (x + 8)) n v := by
    show gA (sA (sA M (x + 7) n u) (x + 8) n v) (x + 8) = _
    rw [gA_sf, gA_nf (by omega)]
  have en : gI (PTW W o n u v) 1322 o = Int32.ofNat (n + 1) := by
    show gI (sI _ 1322 o _) 1322 o = _
    rw [gI_sI, if_pos ⟨rfl, rfl⟩]
  have en1 : npW (PTW W o n u v) o = n + 1 := by
    unfold npW
    rw [en, ofN_ix (by omega)]
  have hW : WM o W (PTW W o n u v) (fun f => f = 1322) (fun j => j = 19 ∨ j = 20) (fun _ => False) := by
    refine ⟨rfl, rfl, rfl, rfl, rfl, rfl, rfl, rfl, fun f z => ?_, fun j z => ?_, fun _ _ => rfl⟩
    · show gI (sI _ 1322 o _) f o = _
      rw [gI_sI, if_neg (fun k => z k.1)]
      rfl
    · show gA (sA (sA W (o + 19) n u) (o + 20) n v) (o + j) = _
      rw [gA_nf (by omega), gA_nf (by omega)]
  refine upd_table hR ⟨Nat.le_refl _, rfl, fun a1 _ => ⟨rfl, rfl, fun f z => ?_, fun _ _ => rfl, fun _ _ => rfl, fun z => ?_, fun _ => rfl, fun _ => rfl⟩⟩ hW rfl rfl (mi_table hI hW ?_ ?_ ?_) ⟨?_, ?_, ?_⟩
  · show gI (sI _ 802 (x + 6) _) f a1 = _
    rw [gI_sI, if_neg z]
    rfl
  · show gA (sA (sA M (x + 7) n u) (x + 8) n v) a1 = _
    rw [gA_nf (by omega), gA_nf (by omega)]
  · rw [en, en1]
    exact ⟨rfl, by omega⟩
  · intro k hk
    rw [en1] at hk
    rw [e19, e20]
    by_cases c : k = n
    · subst c
      rw [ud_s, ud_s]
      exact ⟨hu, hv⟩
    · rw [ud_n _ c, ud_n _ c]
      exact hI.po (by omega)
  · intro k hk
    rw [en1] at hk
    rw [e19, ud_n _ (show ¬ k = n by omega)]
    by_cases c : k + 1 = n
    · rw [c, ud_s]
      exact hl k c
    · rw [ud_n _ c]
      exact hI.ris (by omega)
  · rw [en]
    show gI (sI _ 802 (x + 6) _) 802 (x + 6) = _
    rw [gI_sI, if_pos ⟨rfl, rfl⟩]
  · rw [e7, e19]
    exact row_all hT.2.1
  · rw [e8, e20]
    exact row_all hT.2.2
theorem op_point {x o : Nat} {M W : Mem} (h : Rel x o M W) (u v : Int32) : OPR x o M W (F_X11_point M x u v) (F_X12_point W o u v) := by
  have r4 : OPR x o M W (F_X11_point_p23 M x) (F_X12_point_p45 W o) := opr_map id (opr_refuse h rf4 (by omega) (by omega)) (fun _ _ => rfl) (fun _ _ => rfl)
  have r6 : OPR x o M W (F_X11_point_p55 M x) (F_X12_point_p74 W o) := opr_map id (opr_refuse h rf6 (by omega) (by omega)) (fun _ _ => rfl) (fun _ _ => rfl)
  obtain ⟨ha, ua, ba, ma, ea, ra, rb, tg, hr, hR⟩ := id h
  have hC := hR.csh
  have hI := hR.mi
  have hS := hI.sh
  have hT := hR.tar
  have h8 := hI.np8
  generalize hn : npW W o = n at h8
  have en := hI.np
  rw [hn] at en
  have e802 : gI M 802 (x + 6) = Int32.ofNat n := by rw [hT.1, en]
  have i1 : n < 8 → inb (Int32.ofNat n) 8 := fun k => ofN_inb (by omega) k
  have i2 : ixn (Int32.ofNat n) = n := ofN_ix (by omega)
  -- the tail of both, when the last point lies below
  have tail : ¬ u < (-20 : Int32) → ¬ v < (100 : Int32) → (∀ k, k + 1 = n → (gA W (o + 19) k).toInt < u.toInt) → OPR x o M W (if (99 : Int32) < u then F_X11_point_p55 M x else if (999 : Int32) < v then F_X11_point_p55 M x else lr (gR M 1201 x) (gK M) 9 fun b4 => if (gI M 802 b4) < (8 : Int32) then lr (gR M 1201 x) (gK M) 9 fun b5 => cl (F_X7_addPoint M b5 u v) fun M6 _ => lr (gR M6 1201 x) (gK M6) 9 fun b8 => some (M6, gI M6 802 b8) else F_X11_point_p55 M x) (F_X12_point_p52 W o u v) := by
    intro d1 d2 hl
    unfold F_X12_point_p52
    by_cases c1 : (99 : Int32) < u
    · rw [if_pos c1, if_pos c1]
      exact r6
    · rw [if_neg c1, if_neg c1]
      by_cases c2 : (999 : Int32) < v
      · rw [if_pos c2, if_pos c2]
        exact r6
      · rw [if_neg c2, if_neg c2, hC.r1201, lr_some hC.k6, e802, en]
        by_cases c3 : n < 8
        · rw [if_pos (show Int32.ofNat n < (8 : Int32) from (ofN_lt (m := 8) (by omega) (by omega)).mpr c3), if_neg (show ¬ Int32.ofNat n = (8 : Int32) from fun k => by
            have := (ofN_eq (m := 8) (by omega) (by omega)).mp k
            omega), lr_some hC.k6, hS.r1323, lr_some hS.k19, hS.n19, grd_pos (i1 c3), i2]
          have y1 : (-20 : Int32).toInt = -20 := by decide
          have y2 : (100 : Int32).toInt = 100 := by decide
          have y3 : (99 : Int32).toInt = 99 := by decide
          have y4 : (999 : Int32).toInt = 999 := by decide
          rw [Int32.lt_iff_toInt_lt] at c1 c2 d1 d2
          have e : F_X7_addPoint M (x + 6) u v = some (PTC M x n u v, ()) := by
            unfold F_X7_addPoint F_X7_addPoint_p61
            have c4 : ¬ Int32.ofNat 8 ≤ Int32.ofNat n := fun k => by
              have := (ofN_le (by omega) (by omega)).mp k
              omega
            rw [e802, if_neg (ofN_n0 (by omega)), hC.r800, lr_some hC.k7, hC.n7, if_neg c4, hC.r801, lr_some hC.k8, hC.n8, if_neg c4, lr_some hC.k7, hC.n7, grd_pos (i1 c3), i2]
            refine bnd_i ?_
            show lr (gR M 801 (x + 6)) (gK M) 20 _ = _
            rw [hC.r801, lr_some hC.k8]
            show grd (inb (gI M 802 (x + 6)) (gN M (x + 8))) _ = _
            rw [hC.n8, e802, grd_pos (i1 c3)]
            refine bnd_i (bnd_i ?_)
            show some (sI (sA (sA M (x + 7) n u) (x + 8) (ixn (gI M 802 (x + 6))) v) 802 (x + 6) (gI M 802 (x + 6) + 1), ()) = _
            rw [e802, i2, show Int32.ofNat n + 1 = Int32.ofNat (n + 1) from ofN_succ]
            rfl
          rw [e, cl_some]
          refine opr_of (r := Int32.ofNat (n + 1)) ?_ (W1 := PTW W o n u v) ?_ (r_point hR hn c3 ⟨by omega, by omega⟩ ⟨by omega, by omega⟩ hl) rfl rfl rfl rfl
          · show lr (gR M 1201 x) (gK M) 9 _ = _
            rw [hC.r1201, lr_some hC.k6]
            show some (PTC M x n u v, gI (sI _ 802 (x + 6) _) 802 (x + 6)) = _
            rw [gI_sI, if_pos ⟨rfl, rfl⟩]
          · refine bnd_i ?_
            show lr (gR W 1324 o) (gK W) 20 _ = _
            rw [hS.r1324, lr_some hS.k20]
            show grd (inb (gI W 1322 o) (gN W (o + 20))) _ = _
            rw [hS.n20, en, grd_pos (i1 c3)]
            refine bnd_i (bnd_i ?_)
            show some (sI (sA (sA W (o + 19) n u) (o + 20) (ixn (gI W 1322 o)) v) 1322 o (gI W 1322 o + 1), gI (sI _ 1322 o (gI W 1322 o + 1)) 1322 o) = _
            rw [gI_sI, if_pos ⟨rfl, rfl⟩, en, i2, show Int32.ofNat n + 1 = Int32.ofNat (n + 1) from ofN_succ]
            rfl
        · have : n = 8 := by omega
          subst this
          rw [if_neg (show ¬ Int32.ofNat 8 < (8 : Int32) by decide), if_pos (show Int32.ofNat 8 = (8 : Int32) from rfl)]
          exact r6
  unfold F_X11_point F_X12_point
  by_cases d1 : u < (-20 : Int32)
  · rw [if_pos d1, if_pos d1]
    exact r4
  · rw [if_neg d1, if_neg d1]
    by_cases d2 : v < (100 : Int32)
    · rw [if_pos d2, if_pos d2]
      exact r4
    · rw [if_neg d2, if_neg d2, hC.r1201, lr_some hC.k6, en, hS.r1323, lr_some hS.k19]
      by_cases c0 : n = 0
      · have ea : F_X7_isAboveLast M (x + 6) u = some (M, 1) := by
          unfold F_X7_isAboveLast F_X7_isAboveLast_p30 F_X7_isAboveLast_p35
          refine bnd_i ?_
          rw [e802, c0, if_pos (by decide)]
          rfl
        rw [if_pos (show Int32.ofNat n ≤ 0 by rw [c0]; decide), ea, cl_some, if_neg one_nz]
        have t := tail d1 d2 (fun k hk => by omega)
        rw [hC.r1201] at t
        dsimp only
        rw [hC.r1201]
        exact t
      · have hm : Int32.ofNat n - 1 = Int32.ofNat (n - 1) := ofN_subk (k := 1) (by omega) (by omega)
        have j1 : inb (Int32.ofNat (n - 1)) 8 := ofN_inb (by omega) (by omega)
        have j2 : ixn (Int32.ofNat (n - 1)) = n - 1 := ofN_ix (by omega)
        have ea : F_X7_isAboveLast M (x + 6) u = some (M, if u ≤ gA W (o + 19) (n - 1) then 0 else 1) := by
          unfold F_X7_isAboveLast F_X7_isAboveLast_p30 F_X7_isAboveLast_p35
          refine bnd_i ?_
          have c4 : ¬ Int32.ofNat 8 ≤ Int32.ofNat (n - 1) := fun k => by
            have := (ofN_le (by omega) (by omega)).mp k
            omega
          rw [e802, hm, if_neg (ofN_n0 (by omega)), hC.r800, lr_some hC.k7, hC.n7, if_neg c4, lr_some hC.k7, hC.n7, grd_pos j1, j2, hT.2.1 (n - 1) (by omega)]
          by_cases c : u ≤ gA W (o + 19) (n - 1)
          · rw [if_pos c, if_pos c]
            rfl
          · rw [if_neg c, if_neg c]
            rfl
        have cz : ¬ Int32.ofNat n ≤ 0 := fun k => by
          have := (ofN_le (m := 0) (by omega) (by omega)).mp k
          omega
        have cz2 : ¬ Int32.ofNat n = 0 := fun k => by
          have := (ofN_eq (m := 0) (by omega) (by omega)).mp k
          omega
        rw [if_neg cz, if_neg cz2, ea, cl_some, hm]
        unfold F_X12_point_p41
        rw [hS.n19, grd_pos j1, j2]
        by_cases c : u ≤ gA W (o + 19) (n - 1)
        · rw [if_pos c, if_pos rfl, if_neg (fun k => i32_nge.mpr k c)]
          exact r4
        · have c' := i32_nge.mp c
          rw [if_neg c, if_neg one_nz, if_pos c']
          rw [Int32.lt_iff_toInt_lt] at c'
          have t := tail d1 d2 (fun k hk => by
            have : k = n - 1 := by omega
            subst this
            exact c')
          rw [hC.r1201] at t
          dsimp only
          rw [hC.r1201]
          exact t
