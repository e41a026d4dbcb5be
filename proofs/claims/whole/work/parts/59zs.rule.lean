/-- a text that doesn't read: the tape is emptied -/
theorem r_fault {x o : Nat} {M W : Mem} {ha ua ba ma ea : Nat → Nat} {ra rb : Nat → Nat → Nat} {tg : Nat → Nat} {hr : Nat} (hR : REL x o M W ha ua ba ma ea ra rb tg hr) (u a ft n a2 ft2 : Int32) (κ γ : Nat → Int32) (hγ : ∀ i, i < 62 * nrW W o → γ i = gA W (o + 27) i) : REL x o (sI (PC M x u a ft κ) 1002 (x + 13) 0) (sI (PQ W o n a2 ft2 γ) 1328 o 0) ha ua ba ma ea ra rb tg hr := by
  have hC := hR.csh
  have hI := hR.mi
  have hRu := hR.rur
  have hSP := hR.2.2.2.2.2.2.1
  have hK := hSP.1
  have hTT := hSP.2.2.1
  have hTp := hR.2.2.1
  have htop := hC.top
  have hF : FM M (sI (PC M x u a ft κ) 1002 (x + 13) 0) (fun f a => 1002 ≤ f ∧ f ≤ 1005 ∧ a = x + 13) (fun _ _ => False) (fun _ _ => False) (fun a => a = x + 15) (fun _ => False) (fun _ => False) := by
    refine ⟨Nat.le_refl _, rfl, fun y hy => ⟨rfl, rfl, fun f z => ?_, fun f _ => rfl, fun f _ => rfl, fun z => ?_, fun _ => rfl, fun _ => rfl⟩⟩
    · rw [gI_sI, if_neg (by omega), gI_PC]
      by_cases c : y = x + 13
      · rw [if_pos c, if_neg (by omega), if_neg (by omega), if_neg (by omega)]
      · rw [if_neg c]
    · show gA (PC M x u a ft κ) y = _
      rw [gA_PC, if_neg z]
  have hW : WM o W (sI (PQ W o n a2 ft2 γ) 1328 o 0) (fun f => f = 1328 ∨ 1341 ≤ f ∧ f ≤ 1343) (fun j => j = 27) (fun _ => False) := by
    refine ⟨rfl, rfl, rfl, rfl, rfl, rfl, rfl, rfl, fun f z => ?_, fun j z => ?_, fun _ _ => rfl⟩
    · rw [gI_sI, if_neg (fun k => z (Or.inl k.1)), PQ_o _ _ _ _ _ _ (by omega) (by omega) (by omega)]
    · exact PQ_r W o n a2 ft2 γ (by omega)
  have e27 : gA (sI (PQ W o n a2 ft2 γ) 1328 o 0) (o + 27) = γ := PQ_k W o n a2 ft2 γ
  have e1328 : gI (sI (PQ W o n a2 ft2 γ) 1328 o 0) 1328 o = 0 := by rw [gI_sI, if_pos ⟨rfl, rfl⟩]
  have j1002 : gI (sI (PC M x u a ft κ) 1002 (x + 13) 0) 1002 (x + 13) = 0 := by rw [gI_sI, if_pos ⟨rfl, rfl⟩]
  have e1329 := hW.i (f := 1329) (by intro z; (try dsimp only at z); omega)
  have e26 := hW.a (j := 26) (by intro z; (try dsimp only at z); omega)
  have en : nrW (sI (PQ W o n a2 ft2 γ) 1328 o 0) o = nrW W o := by
    unfold nrW
    rw [e1329]
  have ez : szW (sI (PQ W o n a2 ft2 γ) 1328 o 0) o = szW W o := by
    funext r
    unfold szW
    rw [e26]
  have hur := hF.rur hK hRu hTT (by intro f y z1 z; (try dsimp only at z); omega) (fun _ _ _ => id) (fun _ _ => id) (by intro y z1 z; (try dsimp only at z); omega)
  have g24 := hW.a (j := 24) (by intro z; (try dsimp only at z); omega)
  have g25 := hW.a (j := 25) (by intro z; (try dsimp only at z); omega)
  have g23 := hW.a (j := 23) (by intro z; (try dsimp only at z); omega)
  refine upd_parse hR hF hW rfl rfl (mi_text (nr := nrW W o) hI (hW.mono (fun f z => by omega) (fun j z => by omega) (fun _ z => z)) ⟨by rw [en, e1329]; exact hI.nr, by rw [en]; exact hI.nr30⟩ (fun r hr => ?_)) ⟨by rw [en]; exact hur.1, fun r hr => ?_⟩ ⟨0, e1328, by omega, fun i hi => absurd hi (by omega)⟩ ⟨by rw [j1002, e1328], fun i hi => ?_⟩
  · rw [en] at hr
    rw [ez, e26, e27]
    obtain ⟨q1, q2, q3⟩ := hI.ru hr
    exact ⟨q1, q2, okC_congr _ _ _ (fun i i1 i2 => hγ i (by omega)) q3⟩
  · rw [en] at hr
    rw [ez, e26, e27, g24, g25]
    obtain ⟨q1, q2, q3, q4, q5, q6, q7, q8, q9⟩ := hur.2 r hr
    have hz := (hI.ru hr).2.1
    refine ⟨q1, q2, q3, q4, q5, q6, q7, q8, fun j hj => ?_⟩
    rw [hγ _ (by omega)]
    exact q9 j hj
  · rw [g23]
    show gA (PC M x u a ft κ) (x + 14) i = _
    rw [PC_t]
    exact hTp.2 i hi
theorem op_rule {x o : Nat} {M W : Mem} (h : Rel x o M W) (p d : Int32) : OPR x o M W (F_X11_rule M x p d) (F_X12_rule W o p d) := by
  have r6 : OPR x o M W (F_X11_rule_p59 M x) (F_X12_rule_p51 W o) := opr_map id (opr_refuse h rf6 (by omega) (by omega)) (fun _ _ => rfl) (fun _ _ => rfl)
  obtain ⟨ha, ua, ba, ma, ea, ra, rb, tg, hr, hR⟩ := id h
  have hC := hR.csh
  have hI := hR.mi
  have hS := hI.sh
  have hRu := hR.rur
  have hh := hR.2.1.1
  have hTp := hR.2.2.1
  have htop := hC.top
  obtain ⟨T, t1, t2, t3⟩ := hR.2.1.2.2.2.1
  have h5 := hR.2.1.2.2.2.2.1
  have l0 : (0 : Int64).toInt = 0 := by decide
  have l1 : (1 : Int64).toInt = 1 := by decide
  have z0 : (0 : Int32).toInt = 0 := by decide
  have z1 : (1 : Int32).toInt = 1 := by decide
  have run : OPR x o M W (F_X11_rule_p16 M x p d) (if ((gI W 1301 o) / (24 : Int32)) ≤ d then if (333 : Int32) < d then F_X12_rule_p51 W o else if (gI W 1329 o) = (30 : Int32) then F_X12_rule_p51 W o else bnd (sI W 1341 o (0 : Int32)) fun M3 => bnd (sI M3 1342 o (0 : Int32)) fun M4 => grd ((0 : Int32) = 0 ∨ (0 : Int32) = 1) <| bnd (sI M4 1343 o (0 : Int32)) fun M5 => cl (F_X12_g FD 0 M5 o (0 : Int32)) fun M6 _ => if (gI M6 1343 o) = 0 then if (gI M6 1341 o) = (gI M6 1328 o) then F_X12_rule_p101 M6 o p d (1 : Int32) else F_X12_rule_p100 M6 o p d else F_X12_rule_p100 M6 o p d else cl (F_X12_refuse W o (-4 : Int32)) fun M8 r9 => some (M8, r9)) := by
    unfold F_X11_rule_p16
    rw [hC.r1205, lr_some hC.k46, hR.dr.1, hh.1]
    by_cases c1 : Int32.ofNat hr / (24 : Int32) ≤ d
    · rw [if_pos c1, if_pos c1]
      by_cases c2 : (333 : Int32) < d
      · rw [if_pos c2, if_pos c2]
        exact r6
      · rw [if_neg c2, if_neg c2, hC.r1202, lr_some hC.k9, hC.r700, lr_some hC.k10, c_size, cl_some]
        dsimp only
        rw [hRu.1.2.1, hI.nr]
        have h30 := hI.nr30
        have enr := hI.nr
        generalize hn : nrW W o = nr at h30 enr
        by_cases c3 : nr < 30
        · rw [if_pos (show Int32.ofNat nr < (30 : Int32) from (ofN_lt (m := 30) (by omega) (by omega)).mpr c3), if_neg (show ¬ Int32.ofNat nr = (30 : Int32) from fun z => by
            have := (ofN_eq (m := 30) (by omega) (by omega)).mp z
            omega), hC.r1203, lr_some hC.k13]
          obtain ⟨tb, tb1, tb2⟩ : ∃ tb : Nat → Nat, (∀ i, i < T → gA W (o + 23) i = Int32.ofNat (tb i)) ∧ ∀ i, i < T → tb i < 256 := by
            refine ⟨fun i => if hi : i < T then (t3 i hi).choose else 0, fun i hi => ?_, fun i hi => ?_⟩
            · dsimp only
              rw [dif_pos hi]
              exact (t3 i hi).choose_spec.2
            · dsimp only
              rw [dif_pos hi]
              exact (t3 i hi).choose_spec.1
          have hct : CT x T tb M := ⟨hC, by rw [hTp.1, t1], t2, fun i hi => by rw [hTp.2 i (by omega), tb1 i hi], tb2⟩
          have hmt : MT o T nr tb W := ⟨hS, t1, t2, tb1, tb2, h5, enr, c3⟩
          have eM : (bnd (sI W 1341 o (0 : Int32)) fun M3 => bnd (sI M3 1342 o (0 : Int32)) fun M4 => grd ((0 : Int32) = 0 ∨ (0 : Int32) = 1) <| bnd (sI M4 1343 o (0 : Int32)) fun M5 => cl (F_X12_g FD 0 M5 o (0 : Int32)) fun M6 _ => if (gI M6 1343 o) = 0 then if (gI M6 1341 o) = (gI M6 1328 o) then F_X12_rule_p101 M6 o p d (1 : Int32) else F_X12_rule_p100 M6 o p d else F_X12_rule_p100 M6 o p d) = cl (F_X12_g FD 0 (PQ W o 0 0 0 (gA W (o + 27))) o (0 : Int32)) fun M6 _ => if (gI M6 1343 o) = 0 then if (gI M6 1341 o) = (gI M6 1328 o) then F_X12_rule_p101 M6 o p d (1 : Int32) else F_X12_rule_p100 M6 o p d else F_X12_rule_p100 M6 o p d := by
            refine bnd_i (bnd_i ?_)
            rw [grd_pos (Or.inl rfl)]
            refine bnd_i ?_
            rw [PQ_beg]
          rw [eM]
          rcases c_compile hct hmt with ⟨n1, κ1, γ1, k1, k2, G⟩ | ⟨a1, u1, n1, ft, κ1, γ1, k1, k2, k3, k4, k5⟩
          · obtain ⟨M3, p1, p2, p3, p4, p5, p6, p7, p8⟩ := r_rule hR hn c3 t2 p d G
            have i1 : inb (Int32.ofNat nr) 30 := ofN_inb (by omega) c3
            have i2 : ixn (Int32.ofNat nr) = nr := ofN_ix (by omega)
            refine ⟨M3, UW W o nr p d (Int32.ofNat n1) (Int32.ofNat T) γ1, Int32.ofNat (nr + 1), ?_, ?_, p2, p5, p6, p7, p8, rfl, rfl⟩
            · have q : ∀ N : Mem, gK N = gK M → gR N = gR M → gH N = gH M → CSh x N → gA N (x + 15) = κ1 → True := fun _ _ _ _ _ _ => trivial
              rw [k1, cl_some]
              dsimp only
              show lr (gR M 1203 x) (gK M) 11 _ = _
              rw [hC.r1203, lr_some hC.k13]
              refine bnd_i ?_
              rw [if_pos rfl]
              show lr (gR M 1202 x) (gK M) 8 _ = _
              rw [hC.r1202, lr_some hC.k9]
              show lr (gR M 700 (x + 9)) (gK M) 1 _ = _
              rw [hC.r700, lr_some hC.k10]
              refine bnd_i (bnd_i ?_)
              have q1 : gR (nO (sI (PC M x (Int32.ofNat n1) (Int32.ofNat T) (-1) κ1) 1002 (x + 13) 0) 7 4) 1203 x = gR M 1203 x := if_neg (show ¬ x = gH M by omega)
              have q2 : gR (nO (sI (PC M x (Int32.ofNat n1) (Int32.ofNat T) (-1) κ1) 1002 (x + 13) 0) 7 4) 1001 (x + 13) = gR M 1001 (x + 13) := if_neg (show ¬ x + 13 = gH M by omega)
              have q3 : gK (nO (sI (PC M x (Int32.ofNat n1) (Int32.ofNat T) (-1) κ1) 1002 (x + 13) 0) 7 4) (x + 13) = 11 := (if_neg (show ¬ x + 13 = gH M by omega)).trans hC.k13
              have q4 : gK (nO (sI (PC M x (Int32.ofNat n1) (Int32.ofNat T) (-1) κ1) 1002 (x + 13) 0) 7 4) (x + 15) = 20 := (if_neg (show ¬ x + 15 = gH M by omega)).trans hC.k15
              rw [q1, hC.r1203, lr_some q3, q2, hC.r1001, lr_some q4]
              refine bnd_i (bnd_i ?_)
              have q5 : gK (nCl (nO (sI (PC M x (Int32.ofNat n1) (Int32.ofNat T) (-1) κ1) 1002 (x + 13) 0) 7 4) (x + 15)) (x + 13) = 11 := (if_neg (show ¬ x + 13 = gH M + 1 by omega)).trans q3
              show lr (gR (nO (sI (PC M x (Int32.ofNat n1) (Int32.ofNat T) (-1) κ1) 1002 (x + 13) 0) 7 4) 1203 x) _ 11 _ = _
              rw [q1, hC.r1203, lr_some q5]
              have q6 : gI (nCl (nO (sI (PC M x (Int32.ofNat n1) (Int32.ofNat T) (-1) κ1) 1002 (x + 13) 0) 7 4) (x + 15)) 1003 (x + 13) = Int32.ofNat n1 := by
                show (if x + 13 = gH M then 0 else gI (sI (PC M x (Int32.ofNat n1) (Int32.ofNat T) (-1) κ1) 1002 (x + 13) 0) 1003 (x + 13)) = _
                rw [if_neg (by omega), gI_nf (by omega), PC_u]
              rw [q6]
              have q7 : F_X5_init (nCl (nO (sI (PC M x (Int32.ofNat n1) (Int32.ofNat T) (-1) κ1) 1002 (x + 13) 0) 7 4) (x + 15)) (gH M) p d (gH M + 1) (Int32.ofNat n1) = some (NU M x p d (Int32.ofNat n1) (Int32.ofNat T) κ1, ()) := by
                unfold F_X5_init
                exact bnd_i (bnd_i (bnd_i (bnd_i rfl)))
              show cl (F_X5_init _ (gH M) p d (gH M + 1) (Int32.ofNat n1)) _ = _
              rw [q7, cl_some]
              dsimp only
              show cl (F_Jx4a65c_add_9ea2d (NU M x p d (Int32.ofNat n1) (Int32.ofNat T) κ1) (x + 10) (gH M)) _ = _
              rw [p1, cl_some]
              dsimp only
              rw [p3.r1202, lr_some p3.k9, p3.r700, lr_some p3.k10, c_size, cl_some, p4]
            · rw [k2, cl_some]
              dsimp only
              rw [PQ_f, if_pos rfl, PQ_a, PQ_o _ _ _ _ _ _ (by omega) (by omega) (by omega), t1, if_pos rfl]
              unfold F_X12_rule_p101
              refine bnd_i ?_
              rw [if_neg (show ¬ (1 : Int32) = 0 by decide)]
              show lr (gR W 1330 o) (gK W) 20 _ = _
              have w0 : gI (sI (PQ W o (Int32.ofNat n1) (Int32.ofNat T) 0 γ1) 1328 o 0) 1329 o = Int32.ofNat nr := by
                rw [gI_nf (by omega), PQ_o _ _ _ _ _ _ (by omega) (by omega) (by omega), enr]
              have w1 : gI (sI (PQ W o (Int32.ofNat n1) (Int32.ofNat T) 0 γ1) 1328 o 0) 1342 o = Int32.ofNat n1 := by
                rw [gI_nf (by omega), PQ_n]
              rw [hS.r1330, lr_some hS.k24, w0]
              show grd (inb (Int32.ofNat nr) (gN W (o + 24))) _ = _
              rw [hS.n24, grd_pos i1, i2]
              refine bnd_i ?_
              show lr (gR W 1331 o) (gK W) 20 _ = _
              rw [hS.r1331, lr_some hS.k25]
              show grd (inb (gI (sI (PQ W o (Int32.ofNat n1) (Int32.ofNat T) 0 γ1) 1328 o 0) 1329 o) (gN W (o + 25))) _ = _
              rw [hS.n25, w0, grd_pos i1]
              refine bnd_i ?_
              show lr (gR W 1332 o) (gK W) 20 _ = _
              rw [hS.r1332, lr_some hS.k26]
              show grd (inb (gI (sI (PQ W o (Int32.ofNat n1) (Int32.ofNat T) 0 γ1) 1328 o 0) 1329 o) (gN W (o + 26))) _ = _
              rw [hS.n26, w0, grd_pos i1]
              refine bnd_i (bnd_i ?_)
              show some (sI (sA (sA (sA (sI (PQ W o (Int32.ofNat n1) (Int32.ofNat T) 0 γ1) 1328 o 0) (o + 24) nr p) (o + 25) (ixn (gI (sI (PQ W o (Int32.ofNat n1) (Int32.ofNat T) 0 γ1) 1328 o 0) 1329 o)) d) (o + 26) (ixn (gI (sI (PQ W o (Int32.ofNat n1) (Int32.ofNat T) 0 γ1) 1328 o 0) 1329 o)) (gI (sI (PQ W o (Int32.ofNat n1) (Int32.ofNat T) 0 γ1) 1328 o 0) 1342 o)) 1329 o (gI (sI (PQ W o (Int32.ofNat n1) (Int32.ofNat T) 0 γ1) 1328 o 0) 1329 o + 1), gI (sI (sA (sA (sA (sI (PQ W o (Int32.ofNat n1) (Int32.ofNat T) 0 γ1) 1328 o 0) (o + 24) nr p) (o + 25) (ixn (gI (sI (PQ W o (Int32.ofNat n1) (Int32.ofNat T) 0 γ1) 1328 o 0) 1329 o)) d) (o + 26) (ixn (gI (sI (PQ W o (Int32.ofNat n1) (Int32.ofNat T) 0 γ1) 1328 o 0) 1329 o)) (gI (sI (PQ W o (Int32.ofNat n1) (Int32.ofNat T) 0 γ1) 1328 o 0) 1342 o)) 1329 o (gI (sI (PQ W o (Int32.ofNat n1) (Int32.ofNat T) 0 γ1) 1328 o 0) 1329 o + 1)) 1329 o) = _
              rw [w0, w1, i2, gI_sI, if_pos ⟨rfl, rfl⟩, show Int32.ofNat nr + 1 = Int32.ofNat (nr + 1) from ofN_succ]
              rfl
          · have hR3 := r_fault hR u1 (Int32.ofNat a1) (Int32.ofNat a1) n1 (Int32.ofNat a1) ft κ1 γ1 (by rw [hn]; exact k5)
            refine opr_of (r := (-20 : Int32) - Int32.ofNat a1) ?_ ?_ hR3 rfl rfl rfl rfl
            · rw [k1, cl_some]
              dsimp only
              show lr (gR M 1203 x) (gK M) 11 _ = _
              rw [hC.r1203, lr_some hC.k13]
              refine bnd_i ?_
              rw [if_neg (ofN_nn (n := a1) (by omega))]
            · have e100 : F_X12_rule_p100 (PQ W o n1 (Int32.ofNat a1) ft γ1) o p d = some (sI (PQ W o n1 (Int32.ofNat a1) ft γ1) 1328 o 0, (-20 : Int32) - Int32.ofNat a1) := by
                unfold F_X12_rule_p100 F_X12_rule_p101
                refine bnd_i ?_
                rw [if_pos rfl, gI_nf (by omega), PQ_a]
              rw [k2, cl_some]
              dsimp only
              rw [PQ_f, PQ_a, PQ_o _ _ _ _ _ _ (by omega) (by omega) (by omega), t1]
              by_cases cf : ft = 0
              · rw [if_pos cf, if_neg (show ¬ Int32.ofNat a1 = Int32.ofNat T from fun z => by
                  have := (ofN_eq (by omega) (by omega)).mp z
                  have := k4 cf
                  omega)]
                exact e100
              · rw [if_neg cf]
                exact e100
        · have : nr = 30 := by omega
          subst this
          rw [if_neg (show ¬ Int32.ofNat 30 < (30 : Int32) by decide), if_pos (show Int32.ofNat 30 = (30 : Int32) from rfl)]
          exact r6
    · rw [if_neg c1, if_neg c1]
      exact opr_map id (opr_refuse h rf4 (by omega) (by omega)) (fun _ _ => rfl) (fun _ _ => rfl)
  unfold F_X11_rule F_X12_rule
  rw [m_in, cl_some]
  dsimp only
  by_cases c : p = 0 ∨ p = 1
  · have e : (0 : Int64) ≤ p.toInt64 ∧ p.toInt64 ≤ 1 := by
      rcases c with c | c
      · subst c
        decide
      · subst c
        decide
    rw [if_pos e, if_neg (show ¬ (1 : Int32) = 0 by decide)]
    have e2 : (if p = 0 then F_X11_rule_p16 M x p d else if p = (1 : Int32) then F_X11_rule_p16 M x p d else cl (F_X11_refuse M x (-2 : Int32)) fun M1 r2 => some (M1, r2)) = F_X11_rule_p16 M x p d := by
      rcases c with c | c
      · rw [if_pos c]
      · by_cases c0 : p = 0
        · rw [if_pos c0]
        · rw [if_neg c0, if_pos c]
    rw [e2]
    exact run
  · have e : ¬ ((0 : Int64) ≤ p.toInt64 ∧ p.toInt64 ≤ 1) := by
      intro k
      have k1 := i64_le.mp k.1
      have k2 := i64_le.mp k.2
      rw [Int32.toInt_toInt64] at k1 k2
      rw [l0] at k1
      rw [l1] at k2
      have : p.toInt = 0 ∨ p.toInt = 1 := by omega
      rcases this with q | q
      · exact c (Or.inl (Int32.toInt_inj.mp (q.trans z0.symm)))
      · exact c (Or.inr (Int32.toInt_inj.mp (q.trans z1.symm)))
    rw [if_neg e, if_pos rfl, if_neg (fun z => c (Or.inl z)), if_neg (fun z => c (Or.inr z))]
    exact opr_map id (opr_refuse h rf2 (by omega) (by omega)) (fun _ _ => rfl) (fun _ _ => rfl)
