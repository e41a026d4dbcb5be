/-- a new house -/
def NH (M : Mem) (a b c : Int32) : Mem := sI (sI (sI (nO M 4 5) 300 (gH M) a) 301 (gH M) b) 302 (gH M) c
theorem nh_fm (M : Mem) (a b c : Int32) : FM M (NH M a b c) (fun _ _ => False) (fun _ _ => False) (fun _ _ => False) (fun _ => False) (fun _ => False) (fun _ => False) := by
  refine ⟨Nat.le_succ _, rfl, fun y hy => ⟨if_neg (by omega), rfl, fun f _ => ?_, fun f _ => if_neg (by omega), fun f _ => if_neg (by omega), fun _ => rfl, fun _ => rfl, fun _ => rfl⟩⟩
  show gI (sI (sI (sI (nO M 4 5) 300 (gH M) a) 301 (gH M) b) 302 (gH M) c) f y = _
  rw [gI_sI, if_neg (by omega), gI_sI, if_neg (by omega), gI_sI, if_neg (by omega)]
  exact if_neg (by omega)
theorem nh_kh {M : Mem} (hK : KH M) (hE : gE M < gH M) (a b c : Int32) : KH (NH M a b c) := by
  refine ⟨fun y hy => ?_, ?_⟩
  · show y < gH M + 1
    by_cases cy : y = gH M
    · omega
    · have hy : ¬ up1 (gK M) (gH M) 4 y = 0 := hy
      rw [show up1 (gK M) (gH M) 4 y = gK M y from if_neg cy] at hy
      have := hK.1 y hy
      omega
  · show up1 (gK M) (gH M) 4 (gE M) = 0
    rw [show up1 (gK M) (gH M) 4 (gE M) = gK M (gE M) from if_neg (by omega)]
    exact hK.2
theorem op_house {x o : Nat} {M W : Mem} (h : Rel x o M W) (a b c : Int32) : OPR x o M W (F_X11_house M x a b c) (F_X12_house W o a b c) := by
  have r4 : OPR x o M W (F_X11_house_p12 M x) (F_X12_house_p12 W o) := opr_map id (opr_refuse h rf4 (by omega) (by omega)) (fun _ _ => rfl) (fun _ _ => rfl)
  have r6 : OPR x o M W (F_X11_house_p58 M x) (F_X12_house_p48 W o) := opr_map id (opr_refuse h rf6 (by omega) (by omega)) (fun _ _ => rfl) (fun _ _ => rfl)
  obtain ⟨ha, ua, ba, ma, ea, ra, rb, tg, hr, hR⟩ := id h
  have hC := hR.csh
  have hI := hR.mi
  have hS := hI.sh
  have h20 := hI.nh20
  have hHo := hR.hor
  have hHI := hR.2.2.2.2.2.2.2
  have hSP := hR.2.2.2.2.2.2.1
  have hK := hSP.1
  have hT := hSP.2.1
  have hE : gE M < gH M := by
    have := hC.emp
    have := hC.top
    omega
  unfold F_X11_house F_X12_house
  by_cases c1 : a < 0
  · rw [if_pos c1, if_pos c1]
    exact r4
  · rw [if_neg c1, if_neg c1]
    by_cases c2 : b < 0
    · rw [if_pos c2, if_pos c2]
      exact r4
    · rw [if_neg c2, if_neg c2]
      by_cases c3 : 0 ≤ c
      · rw [if_pos c3, if_pos c3, hC.r1200, lr_some hC.k1, hC.r1100, lr_some hC.k2, c_size, cl_some]
        dsimp only
        by_cases c4 : (9999 : Int32) < a
        · rw [if_pos c4, if_pos c4]
          exact r6
        · rw [if_neg c4, if_neg c4]
          by_cases c5 : (999 : Int32) < b
          · rw [if_pos c5, if_pos c5]
            exact r6
          · rw [if_neg c5, if_neg c5]
            by_cases c6 : (16777215 : Int32) < c
            · rw [if_pos c6, if_pos c6]
              exact r6
            · rw [if_neg c6, if_neg c6, hHo.1.2.1, hI.nh]
              generalize hn : nhW W o = n at h20 hHo hT
              by_cases c7 : n < 20
              · have z0 : (0 : Int32).toInt = 0 := by decide
                have z1 : (9999 : Int32).toInt = 9999 := by decide
                have z2 : (999 : Int32).toInt = 999 := by decide
                rw [Int32.lt_iff_toInt_lt] at c1 c2 c4 c5
                have i1 : inb (Int32.ofNat n) 20 := ofN_inb (by omega) c7
                have i2 : ixn (Int32.ofNat n) = n := ofN_ix (by omega)
                have en := hI.nh
                rw [hn] at en
                have hLi : LiS M (x + 2) n ha := by
                  have := hHo.1
                  rw [hn] at this
                  exact this
                have hF0 := nh_fm M a b c
                have hK2 := nh_kh hK hE a b c
                have hL2 := hF0.lis hK hLi hT id id (fun _ _ => id)
                have hT2 : TG (NH M a b c) tg (x + 2) n := hF0.tg2 hK hLi hT id (fun _ _ => rfl)
                have kv : gK (NH M a b c) (gH M) = 4 := if_pos rfl
                obtain ⟨M3, p1, p2, p3, p4, p5, p6, p7, p8, p9⟩ := c_add hK2 (show gE M < gH M + 1 by omega) hL2 hT2 (by omega) (fun i hi => by
                  rw [hF0.k hK (hHo.2 i (by omega)).1 (by omega)]
                  omega) (v := gH M) (by rw [kv]; omega)
                have hFa : FM M M3 (fun f y => (f = 0 ∨ f = 2) ∧ y = x + 2) (fun _ _ => False) (fun f y => f = 1 ∧ y = x + 2) (fun _ => False) (fun _ => False) (fun y => tg y = x + 2 ∧ gK M y = 23) := FM.pre hF0 p5 (fun _ _ z => z) (fun _ _ z => z) (fun _ _ z => z) (fun _ z => z) (fun _ z => z) (fun y hy z => ⟨z.1, by rw [← (hF0.2.2 y hy).1]; exact z.2⟩)
                have htop := hC.top
                generalize hW1 : sI (sA (sA (sA W (o + 14) n a) (o + 15) n b) (o + 16) n c) 1316 o (Int32.ofNat (n + 1)) = W1
                have a14 : gA W1 (o + 14) = ud (gA W (o + 14)) n a := by
                  rw [← hW1]
                  show gA (sA (sA (sA W (o + 14) n a) (o + 15) n b) (o + 16) n c) (o + 14) = _
                  rw [gA_nf (by omega), gA_nf (by omega), gA_sf]
                have a15 : gA W1 (o + 15) = ud (gA W (o + 15)) n b := by
                  rw [← hW1]
                  show gA (sA (sA (sA W (o + 14) n a) (o + 15) n b) (o + 16) n c) (o + 15) = _
                  rw [gA_nf (by omega), gA_sf, gA_nf (by omega)]
                have a16 : gA W1 (o + 16) = ud (gA W (o + 16)) n c := by
                  rw [← hW1]
                  show gA (sA (sA (sA W (o + 14) n a) (o + 15) n b) (o + 16) n c) (o + 16) = _
                  rw [gA_sf, gA_nf (by omega), gA_nf (by omega)]
                have a17 : gA W1 (o + 17) = gA W (o + 17) := by
                  rw [← hW1]
                  show gA (sA (sA (sA W (o + 14) n a) (o + 15) n b) (o + 16) n c) (o + 17) = _
                  rw [gA_nf (by omega), gA_nf (by omega), gA_nf (by omega)]
                have e1 : gI W1 1316 o = Int32.ofNat (n + 1) := by
                  rw [← hW1, gI_sI, if_pos ⟨rfl, rfl⟩]
                have en1 : nhW W1 o = n + 1 := by
                  unfold nhW
                  rw [e1, ofN_ix (by omega)]
                have hWM : WM o W W1 (fun f => f = 1316) (fun j => j = 14 ∨ j = 15 ∨ j = 16) (fun _ => False) := by
                  subst hW1
                  refine ⟨rfl, rfl, rfl, rfl, rfl, rfl, rfl, rfl, fun f z => ?_, fun j z => ?_, fun _ _ => rfl⟩
                  · rw [gI_sI, if_neg (fun k => z k.1)]
                    rfl
                  · show gA (sA (sA (sA W (o + 14) n a) (o + 15) n b) (o + 16) n c) (o + j) = _
                    rw [gA_nf (by omega), gA_nf (by omega), gA_nf (by omega)]
                have fh := p5.2.2 (gH M) (show gH M < gH M + 1 by omega)
                have gi : ∀ f, 300 ≤ f → gI M3 f (gH M) = gI (NH M a b c) f (gH M) := fun f hf => fh.2.2.1 f (by intro z; (try dsimp only at z); omega)
                have j300 : gI (NH M a b c) 300 (gH M) = a := by
                  show gI (sI (sI (sI (nO M 4 5) 300 (gH M) a) 301 (gH M) b) 302 (gH M) c) 300 (gH M) = a
                  rw [gI_nf (by omega), gI_nf (by omega), gI_sf, ud_s]
                have j301 : gI (NH M a b c) 301 (gH M) = b := by
                  show gI (sI (sI (sI (nO M 4 5) 300 (gH M) a) 301 (gH M) b) 302 (gH M) c) 301 (gH M) = b
                  rw [gI_nf (by omega), gI_sf, ud_s]
                have j302 : gI (NH M a b c) 302 (gH M) = c := by
                  show gI (sI (sI (sI (nO M 4 5) 300 (gH M) a) 301 (gH M) b) 302 (gH M) c) 302 (gH M) = c
                  rw [gI_sf, ud_s]
                have j303 : gI (NH M a b c) 303 (gH M) = 0 := by
                  show gI (sI (sI (sI (nO M 4 5) 300 (gH M) a) 301 (gH M) b) 302 (gH M) c) 303 (gH M) = 0
                  rw [gI_nf (by omega), gI_nf (by omega), gI_nf (by omega)]
                  exact if_pos rfl
                have e8 := hR.2.1.2.2.2.2.2.2.2.1
                unfold E8 at e8
                rw [hn] at e8
                have old : ∀ i, i < n → ha i < gH M := fun i hi => FM.lt hK (hHo.2 i (by omega)).1 (by omega)
                have hRel : REL x o M3 W1 (fun i => if i = n then gH M else ha i) ua ba ma ea ra rb (up1 tg (gH M + 1) (x + 2)) hr := by
                  refine upd_house (ua1 := ua) (ea1 := ea) hR hFa hWM p3 (mi_house hI ⟨hWM.1, hWM.2.1, hWM.2.2.1, hWM.2.2.2.1, hWM.2.2.2.2.1, hWM.2.2.2.2.2.1, hWM.2.2.2.2.2.2.1, hWM.2.2.2.2.2.2.2.1, hWM.2.2.2.2.2.2.2.2.1, fun j z => hWM.a (by (try dsimp only at z); omega), hWM.2.2.2.2.2.2.2.2.2.2⟩ ?_ ?_) ⟨?_, fun i hi => ?_⟩ ?_ ?_ (fun y hy => if_neg (by omega)) ?_
                  · rw [en1, e1]
                    exact ⟨rfl, by omega⟩
                  · intro i hi
                    rw [en1] at hi
                    rw [a14, a15]
                    by_cases ci : i = n
                    · rw [ci, ud_s, ud_s]
                      exact ⟨⟨by omega, by omega⟩, ⟨by omega, by omega⟩⟩
                    · rw [ud_n _ ci, ud_n _ ci]
                      exact hI.ho (by omega)
                  · rw [en1]
                    exact p2
                  · rw [en1] at hi
                    rw [a14, a15, a16, a17]
                    dsimp only
                    by_cases ci : i = n
                    · subst ci
                      rw [if_pos rfl, ud_s, ud_s, ud_s, gi 300 (by omega), gi 301 (by omega), gi 302 (by omega), gi 303 (by omega), j300, j301, j302, j303, if_pos (e8 i (Nat.le_refl _) (by omega))]
                      exact ⟨fh.1.trans kv, rfl, rfl, rfl, rfl, fun z => absurd (e8 i (Nat.le_refl _) (by omega)) z⟩
                    · rw [if_neg ci, ud_n _ ci, ud_n _ ci, ud_n _ ci]
                      obtain ⟨q1, q2, q3, q4, q5, q6⟩ := hHo.2 i (by omega)
                      have fi := hFa.2.2 (ha i) (old i (by omega))
                      have g : ∀ f, 300 ≤ f → gI M3 f (ha i) = gI M f (ha i) := fun f hf => fi.2.2.1 f (by intro z; (try dsimp only at z); omega)
                      rw [g 300 (by omega), g 301 (by omega), g 302 (by omega), g 303 (by omega), g 304 (by omega)]
                      exact ⟨fi.1.trans q1, q2, q3, q4, q5, q6⟩
                  · intro i hi hi2
                    rw [en1] at hi
                    rw [a17]
                    exact e8 i (by omega) hi2
                  · intro i j hi hj hij
                    rw [en1] at hi hj
                    dsimp only at hij
                    by_cases ci : i = n
                    · by_cases cj : j = n
                      · omega
                      · rw [if_pos ci, if_neg cj] at hij
                        have := old j (by omega)
                        omega
                    · by_cases cj : j = n
                      · rw [if_neg ci, if_pos cj] at hij
                        have := old i (by omega)
                        omega
                      · rw [if_neg ci, if_neg cj] at hij
                        exact hHI i j (by omega) (by omega) hij
                  · rw [en1]
                    exact p4
                have gH2 : gH (NH M a b c) = gH M + 1 := rfl
                have gS2 : gS (NH M a b c) = gS M + 5 := rfl
                rw [gH2] at p6 p7
                rw [gS2] at p8 p9
                refine ⟨M3, W1, Int32.ofNat n, ?_, ?_, ⟨_, _, _, _, _, _, _, _, _, hRel⟩, by omega, by omega, by omega, by omega, hWM.2.2.2.2.2.1, hWM.2.2.2.2.2.2.1⟩
                · rw [if_pos (show Int32.ofNat n < (20 : Int32) from (ofN_lt (m := 20) (by omega) (by omega)).mpr c7), hC.r1200, lr_some hC.k1, hC.r1100, lr_some hC.k2]
                  refine bnd_i (bnd_i ?_)
                  have ei : F_X2_init (nO M 4 5) (gH M) a b c = some (NH M a b c, ()) := by
                    unfold F_X2_init
                    exact bnd_i (bnd_i (bnd_i rfl))
                  rw [ei, cl_some]
                  dsimp only
                  rw [p1, cl_some]
                · have g7 : ¬ Int32.ofNat n = (20 : Int32) := fun z => by
                    have := (ofN_eq (m := 20) (by omega) (by omega)).mp z
                    omega
                  rw [if_neg g7, hS.r1317, lr_some hS.k14, hS.n14, grd_pos i1, i2]
                  refine bnd_i ?_
                  show lr (gR W 1318 o) (gK W) 20 _ = _
                  rw [hS.r1318, lr_some hS.k15]
                  show grd (inb (gI W 1316 o) (gN W (o + 15))) _ = _
                  rw [hS.n15, en, grd_pos i1]
                  refine bnd_i ?_
                  show lr (gR W 1319 o) (gK W) 20 _ = _
                  rw [hS.r1319, lr_some hS.k16]
                  show grd (inb (gI W 1316 o) (gN W (o + 16))) _ = _
                  rw [hS.n16, en, grd_pos i1]
                  refine bnd_i (bnd_i ?_)
                  show some (sI (sA (sA (sA W (o + 14) n a) (o + 15) (ixn (gI W 1316 o)) b) (o + 16) (ixn (gI W 1316 o)) c) 1316 o (gI W 1316 o + 1), gI (sI _ 1316 o (gI W 1316 o + 1)) 1316 o - 1) = _
                  rw [gI_sI, if_pos ⟨rfl, rfl⟩, en, i2, show Int32.ofNat n + 1 = Int32.ofNat (n + 1) from ofN_succ, hW1, show Int32.ofNat (n + 1) - 1 = Int32.ofNat n from ofN_subk (k := 1) (by omega) (by omega)]
              · have : n = 20 := by omega
                subst this
                rw [if_neg (show ¬ Int32.ofNat 20 < (20 : Int32) by decide), if_pos (show Int32.ofNat 20 = (20 : Int32) from rfl)]
                exact r6
      · rw [if_neg c3, if_neg c3]
        exact r4
