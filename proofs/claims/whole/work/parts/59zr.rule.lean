/-- a new rule, its letters behind it, the tape emptied -/
def NU (M : Mem) (x : Nat) (p d n T : Int32) (κ : Nat → Int32) : Mem := sI (sR (sI (sI (nCl (nO (sI (PC M x n T (-1) κ) 1002 (x + 13) 0) 7 4) (x + 15)) 600 (gH M) p) 601 (gH M) d) 602 (gH M) (some (gH M + 1))) 603 (gH M) n
theorem nu_fm {M : Mem} {x : Nat} (p d n T : Int32) (κ : Nat → Int32) : FM M (NU M x p d n T κ) (fun f a => 1002 ≤ f ∧ f ≤ 1005 ∧ a = x + 13) (fun _ _ => False) (fun _ _ => False) (fun a => a = x + 15) (fun _ => False) (fun _ => False) := by
  refine ⟨show gH M ≤ gH M + 1 + 1 by omega, rfl, fun y hy => ⟨?_, ?_, fun f z => ?_, fun f _ => ?_, fun f _ => ?_, fun z => ?_, fun _ => ?_, fun _ => ?_⟩⟩
  · show up1 (up1 (gK M) (gH M) 7) (gH M + 1) 20 y = _
    rw [show up1 (up1 (gK M) (gH M) 7) (gH M + 1) 20 y = up1 (gK M) (gH M) 7 y from if_neg (by omega)]
    exact if_neg (by omega)
  · exact if_neg (show ¬ y = gH M + 1 by omega)
  · show gI (sI (sR (sI (sI (nCl (nO (sI (PC M x n T (-1) κ) 1002 (x + 13) 0) 7 4) (x + 15)) 600 (gH M) p) 601 (gH M) d) 602 (gH M) (some (gH M + 1))) 603 (gH M) n) f y = _
    rw [gI_sI, if_neg (by omega)]
    show gI (sI (sI (nCl (nO (sI (PC M x n T (-1) κ) 1002 (x + 13) 0) 7 4) (x + 15)) 600 (gH M) p) 601 (gH M) d) f y = _
    rw [gI_sI, if_neg (by omega), gI_sI, if_neg (by omega)]
    show (if y = gH M then 0 else gI (sI (PC M x n T (-1) κ) 1002 (x + 13) 0) f y) = _
    rw [if_neg (by omega), gI_sI, if_neg (by omega), gI_PC]
    by_cases c : y = x + 13
    · rw [if_pos c, if_neg (by omega), if_neg (by omega), if_neg (by omega)]
    · rw [if_neg c]
  · exact if_neg (show ¬ y = gH M by omega)
  · show gR (sR (sI (sI (nCl (nO (sI (PC M x n T (-1) κ) 1002 (x + 13) 0) 7 4) (x + 15)) 600 (gH M) p) 601 (gH M) d) 602 (gH M) (some (gH M + 1))) f y = _
    rw [gR_sR, if_neg (by omega)]
    exact if_neg (show ¬ y = gH M by omega)
  · funext i
    show (if y = gH M + 1 then _ else gA (PC M x n T (-1) κ) y i) = _
    rw [if_neg (by omega), gA_PC, if_neg z]
  · funext i
    exact if_neg (show ¬ y = gH M + 1 by omega)
  · funext i
    exact if_neg (show ¬ y = gH M + 1 by omega)
theorem nu_kh {M : Mem} (hK : KH M) (hE : gE M < gH M) (x : Nat) (p d n T : Int32) (κ : Nat → Int32) : KH (NU M x p d n T κ) := by
  have e : ∀ y, gK (NU M x p d n T κ) y = if y = gH M + 1 then 20 else if y = gH M then 7 else gK M y := fun _ => rfl
  refine ⟨fun y hy => ?_, ?_⟩
  · show y < gH M + 1 + 1
    rw [e] at hy
    by_cases c1 : y = gH M + 1
    · omega
    · rw [if_neg c1] at hy
      by_cases c2 : y = gH M
      · omega
      · rw [if_neg c2] at hy
        have := hK.1 y hy
        omega
  · rw [e]
    show (if gE M = gH M + 1 then 20 else if gE M = gH M then 7 else gK M (gE M)) = 0
    rw [if_neg (by omega), if_neg (by omega)]
    exact hK.2
/-- the model after a rule -/
def UW (W : Mem) (o nr : Nat) (p d n T : Int32) (γ : Nat → Int32) : Mem := sI (sA (sA (sA (sI (PQ W o n T 0 γ) 1328 o 0) (o + 24) nr p) (o + 25) nr d) (o + 26) nr n) 1329 o (Int32.ofNat (nr + 1))
theorem uw_wm {W : Mem} {o nr : Nat} (p d n T : Int32) (γ : Nat → Int32) : WM o W (UW W o nr p d n T γ) (fun f => f = 1328 ∨ f = 1329 ∨ 1341 ≤ f ∧ f ≤ 1343) (fun j => j = 24 ∨ j = 25 ∨ j = 26 ∨ j = 27) (fun _ => False) := by
  refine ⟨rfl, rfl, rfl, rfl, rfl, rfl, rfl, rfl, fun f z => ?_, fun j z => ?_, fun _ _ => rfl⟩
  · show gI (sI _ 1329 o _) f o = _
    rw [gI_sI, if_neg (fun k => z (Or.inr (Or.inl k.1)))]
    show gI (sI (PQ W o n T 0 γ) 1328 o 0) f o = _
    rw [gI_sI, if_neg (fun k => z (Or.inl k.1)), PQ_o _ _ _ _ _ _ (by omega) (by omega) (by omega)]
  · show gA (sA (sA (sA (PQ W o n T 0 γ) (o + 24) nr p) (o + 25) nr d) (o + 26) nr n) (o + j) = _
    rw [gA_nf (by omega), gA_nf (by omega), gA_nf (by omega), PQ_r _ _ _ _ _ _ (by omega)]
theorem r_rule {x o : Nat} {M W : Mem} {ha ua ba ma ea : Nat → Nat} {ra rb : Nat → Nat → Nat} {tg : Nat → Nat} {hr : Nat} (hR : REL x o M W ha ua ba ma ea ra rb tg hr) {nr n1 T : Nat} (hn : nrW W o = nr) (h30 : nr < 30) (hT60 : T ≤ 60) (p d : Int32) {κ γ : Nat → Int32} (G : GOOD T nr 0 0 (gA M (x + 15)) (gA W (o + 27)) T n1 κ γ) : ∃ M3, F_Jx4a65c_add_9ea2d (NU M x p d (Int32.ofNat n1) (Int32.ofNat T) κ) (x + 10) (gH M) = some (M3, 1) ∧ Rel x o M3 (UW W o nr p d (Int32.ofNat n1) (Int32.ofNat T) γ) ∧ CSh x M3 ∧ gI M3 2 (x + 10) = Int32.ofNat (nr + 1) ∧ gH M ≤ gH M3 ∧ gH M3 ≤ gH M + 1000 ∧ gS M ≤ gS M3 ∧ gS M3 ≤ gS M + 10000 := by
  have hC := hR.csh
  have hI := hR.mi
  have hRu := hR.rur
  have hSP := hR.2.2.2.2.2.2.1
  have hK := hSP.1
  have hTT := hSP.2.2.1
  have hLi := hRu.1
  have hTp := hR.2.2.1
  have hE : gE M < gH M := by
    have := hC.emp
    have := hC.top
    omega
  have htop := hC.top
  rw [hn] at hTT hLi
  have hF0 := nu_fm (M := M) (x := x) p d (Int32.ofNat n1) (Int32.ofNat T) κ
  have hK2 := nu_kh hK hE x p d (Int32.ofNat n1) (Int32.ofNat T) κ
  have eh : gH (NU M x p d (Int32.ofNat n1) (Int32.ofNat T) κ) = gH M + 2 := rfl
  have es : gS (NU M x p d (Int32.ofNat n1) (Int32.ofNat T) κ) = gS M + 4 + gN M (x + 15) := rfl
  have ee : gE (NU M x p d (Int32.ofNat n1) (Int32.ofNat T) κ) = gE M := rfl
  have k7 : gK (NU M x p d (Int32.ofNat n1) (Int32.ofNat T) κ) (gH M) = 7 := by
    show (if gH M = gH M + 1 then 20 else if gH M = gH M then 7 else gK M (gH M)) = 7
    rw [if_neg (by omega), if_pos rfl]
  have k8 : gK (NU M x p d (Int32.ofNat n1) (Int32.ofNat T) κ) (gH M + 1) = 20 := if_pos rfl
  have n8 : gN (NU M x p d (Int32.ofNat n1) (Int32.ofNat T) κ) (gH M + 1) = 60 := by
    rw [← hC.n15]
    exact if_pos rfl
  have a8 : gA (NU M x p d (Int32.ofNat n1) (Int32.ofNat T) κ) (gH M + 1) = κ := by
    funext i
    show (if gH M + 1 = gH M + 1 then gA (PC M x (Int32.ofNat n1) (Int32.ofNat T) (-1) κ) (x + 15) i else _) = κ i
    rw [if_pos rfl, PC_k]
  have i600 : gI (NU M x p d (Int32.ofNat n1) (Int32.ofNat T) κ) 600 (gH M) = p := by
    show gI (sI (sI (sI (nCl (nO (sI (PC M x (Int32.ofNat n1) (Int32.ofNat T) (-1) κ) 1002 (x + 13) 0) 7 4) (x + 15)) 600 (gH M) p) 601 (gH M) d) 603 (gH M) (Int32.ofNat n1)) 600 (gH M) = p
    rw [gI_nf (by omega), gI_nf (by omega), gI_sf, ud_s]
  have i601 : gI (NU M x p d (Int32.ofNat n1) (Int32.ofNat T) κ) 601 (gH M) = d := by
    show gI (sI (sI (sI (nCl (nO (sI (PC M x (Int32.ofNat n1) (Int32.ofNat T) (-1) κ) 1002 (x + 13) 0) 7 4) (x + 15)) 600 (gH M) p) 601 (gH M) d) 603 (gH M) (Int32.ofNat n1)) 601 (gH M) = d
    rw [gI_nf (by omega), gI_sf, ud_s]
  have i603 : gI (NU M x p d (Int32.ofNat n1) (Int32.ofNat T) κ) 603 (gH M) = Int32.ofNat n1 := by
    show gI (sI _ 603 (gH M) (Int32.ofNat n1)) 603 (gH M) = _
    rw [gI_sf, ud_s]
  have r602 : gR (NU M x p d (Int32.ofNat n1) (Int32.ofNat T) κ) 602 (gH M) = some (gH M + 1) := by
    show gR (sR _ 602 (gH M) (some (gH M + 1))) 602 (gH M) = _
    rw [gR_sf, ud_s]
  have i1002 : gI (NU M x p d (Int32.ofNat n1) (Int32.ofNat T) κ) 1002 (x + 13) = 0 := by
    show gI (sI (sI (sI (nCl (nO (sI (PC M x (Int32.ofNat n1) (Int32.ofNat T) (-1) κ) 1002 (x + 13) 0) 7 4) (x + 15)) 600 (gH M) p) 601 (gH M) d) 603 (gH M) (Int32.ofNat n1)) 1002 (x + 13) = 0
    rw [gI_nf (by omega), gI_nf (by omega), gI_nf (by omega)]
    show (if x + 13 = gH M then 0 else gI (sI (PC M x (Int32.ofNat n1) (Int32.ofNat T) (-1) κ) 1002 (x + 13) 0) 1002 (x + 13)) = 0
    rw [if_neg (by omega), gI_sI, if_pos ⟨rfl, rfl⟩]
  generalize NU M x p d (Int32.ofNat n1) (Int32.ofNat T) κ = N at hF0 hK2 eh es ee k7 k8 n8 a8 i600 i601 i603 r602 i1002 ⊢
  have hL2 := hF0.lis hK hLi hTT (by intro z; (try dsimp only at z); omega) id (fun _ _ => id)
  have hT2 : TG N tg (x + 10) nr := hF0.tg2 hK hLi hTT id (fun _ _ => rfl)
  obtain ⟨M3, p1, p2, p3, p4, p5, p6, p7, p8, p9⟩ := c_add hK2 (show gE N < gH N by omega) hL2 hT2 (by omega) (fun i hi => by
    rw [hF0.k hK (hRu.2 i (by omega)).1 (by omega)]
    omega) (v := gH M) (by rw [k7]; omega)
  have hFa : FM M M3 (fun f a => (f = 0 ∨ f = 2) ∧ a = x + 10 ∨ 1002 ≤ f ∧ f ≤ 1005 ∧ a = x + 13) (fun _ _ => False) (fun f y => f = 1 ∧ y = x + 10) (fun a => a = x + 15) (fun _ => False) (fun y => tg y = x + 10 ∧ gK M y = 23) := FM.seq hF0 p5 (fun f a _ z => by rcases z with z | z; exact Or.inr z; exact Or.inl z) (fun _ _ _ z => by rcases z with z | z; exact z; exact z) (fun _ _ _ z => by rcases z with z | z; exact absurd z id; exact z) (fun _ _ z => by rcases z with z | z; exact z; exact absurd z id) (fun _ _ z => by rcases z with z | z; exact z; exact z) (fun y hy z => by
    rcases z with z | z
    · exact absurd z id
    · exact ⟨z.1, by rw [← (hF0.2.2 y hy).1]; exact z.2⟩)
  have n15 := hC.n15
  rw [eh] at p4 p6 p7
  rw [es] at p8 p9
  have fh := p5.2.2 (gH M) (by omega)
  have fh1 := p5.2.2 (gH M + 1) (by omega)
  have f13 := p5.2.2 (x + 13) (by omega)
  have j1002 : gI M3 1002 (x + 13) = 0 := by
    rw [f13.2.2.1 1002 (by intro z; (try dsimp only at z); omega)]
    exact i1002
  have hWM := uw_wm (W := W) (o := o) (nr := nr) p d (Int32.ofNat n1) (Int32.ofNat T) γ
  have e24 : gA (UW W o nr p d (Int32.ofNat n1) (Int32.ofNat T) γ) (o + 24) = ud (gA W (o + 24)) nr p := by
    show gA (sA (sA (sA (PQ W o (Int32.ofNat n1) (Int32.ofNat T) 0 γ) (o + 24) nr p) (o + 25) nr d) (o + 26) nr (Int32.ofNat n1)) (o + 24) = _
    rw [gA_nf (by omega), gA_nf (by omega), gA_sf, PQ_r _ _ _ _ _ _ (by omega)]
  have e25 : gA (UW W o nr p d (Int32.ofNat n1) (Int32.ofNat T) γ) (o + 25) = ud (gA W (o + 25)) nr d := by
    show gA (sA (sA (sA (PQ W o (Int32.ofNat n1) (Int32.ofNat T) 0 γ) (o + 24) nr p) (o + 25) nr d) (o + 26) nr (Int32.ofNat n1)) (o + 25) = _
    rw [gA_nf (by omega), gA_sf, gA_nf (by omega), PQ_r _ _ _ _ _ _ (by omega)]
  have e26 : gA (UW W o nr p d (Int32.ofNat n1) (Int32.ofNat T) γ) (o + 26) = ud (gA W (o + 26)) nr (Int32.ofNat n1) := by
    show gA (sA (sA (sA (PQ W o (Int32.ofNat n1) (Int32.ofNat T) 0 γ) (o + 24) nr p) (o + 25) nr d) (o + 26) nr (Int32.ofNat n1)) (o + 26) = _
    rw [gA_sf, gA_nf (by omega), gA_nf (by omega), PQ_r _ _ _ _ _ _ (by omega)]
  have e27 : gA (UW W o nr p d (Int32.ofNat n1) (Int32.ofNat T) γ) (o + 27) = γ := by
    show gA (sA (sA (sA (PQ W o (Int32.ofNat n1) (Int32.ofNat T) 0 γ) (o + 24) nr p) (o + 25) nr d) (o + 26) nr (Int32.ofNat n1)) (o + 27) = _
    rw [gA_nf (by omega), gA_nf (by omega), gA_nf (by omega), PQ_k]
  have e1329 : gI (UW W o nr p d (Int32.ofNat n1) (Int32.ofNat T) γ) 1329 o = Int32.ofNat (nr + 1) := by
    show gI (sI _ 1329 o _) 1329 o = _
    rw [gI_sI, if_pos ⟨rfl, rfl⟩]
  have e1328 : gI (UW W o nr p d (Int32.ofNat n1) (Int32.ofNat T) γ) 1328 o = 0 := by
    show gI (sI (sI (PQ W o (Int32.ofNat n1) (Int32.ofNat T) 0 γ) 1328 o 0) 1329 o _) 1328 o = 0
    rw [gI_nf (by omega), gI_sI, if_pos ⟨rfl, rfl⟩]
  have en : nrW (UW W o nr p d (Int32.ofNat n1) (Int32.ofNat T) γ) o = nr + 1 := by
    unfold nrW
    rw [e1329, ofN_ix (by omega)]
  have g23 := hWM.a (j := 23) (by intro z; (try dsimp only at z); omega)
  generalize UW W o nr p d (Int32.ofNat n1) (Int32.ofNat T) γ = W1 at *
  obtain ⟨G1, G2, G3, G4, G5, G6, G7⟩ := G
  have ez : ∀ r, szW W1 o r = if r = nr then n1 else szW W o r := by
    intro r
    unfold szW
    rw [e26]
    by_cases c : r = nr
    · rw [if_pos c, c, ud_s, ofN_ix (by omega)]
    · rw [if_neg c, ud_n _ c]
  have hmi : MI o W1 := by
    refine mi_text (nr := nr) hI hWM ⟨by rw [en, e1329], by rw [en]; omega⟩ (fun r hr => ?_)
    rw [en] at hr
    rw [ez, e26, e27]
    by_cases c : r = nr
    · rw [if_pos c, c, ud_s]
      refine ⟨rfl, by omega, seg_okC _ _ _ _ ?_⟩
      have := G7 0 (by omega)
      rw [show n1 - 0 = n1 by omega, show 62 * nr + 0 = 62 * nr by omega] at this
      exact this
    · rw [if_neg c, ud_n _ c]
      obtain ⟨q1, q2, q3⟩ := hI.ru (r := r) (by omega)
      exact ⟨q1, q2, okC_congr _ _ _ (fun i i1 i2 => G5 i (by omega)) q3⟩
  have hur : RuR x M3 o W1 (fun i => if i = nr then gH M else ua i) := by
    refine ⟨by rw [en]; exact p2, fun r hr => ?_⟩
    rw [en] at hr
    rw [ez, e24, e25, e26, e27]
    dsimp only
    by_cases c : r = nr
    · rw [if_pos c, if_pos c, c, ud_s, ud_s, ud_s]
      refine ⟨fh.1.trans k7, ?_, ?_, ?_, fh1.1.trans k8, fh1.2.1.trans n8, ?_, by omega, fun j hj => ?_⟩
      · rw [fh.2.2.1 600 (by intro z; (try dsimp only at z); omega)]
        exact i600
      · rw [fh.2.2.1 601 (by intro z; (try dsimp only at z); omega)]
        exact i601
      · rw [fh.2.2.2.2.1 602 (by intro z; (try dsimp only at z); omega)]
        exact r602
      · rw [fh.2.2.1 603 (by intro z; (try dsimp only at z); omega)]
        exact i603
      · rw [fh1.2.2.2.2.2.1 id, a8]
        exact G6 j (by omega) hj
    · rw [if_neg c, if_neg c, ud_n _ c, ud_n _ c, ud_n _ c]
      obtain ⟨q1, q2, q3, q4, q5, q6, q7, q8, q9⟩ := hRu.2 r (by omega)
      have fi := hFa.2.2 (ua r) (FM.lt hK q1 (by omega))
      have fj := hFa.2.2 (ua r + 1) (FM.lt hK q5 (by omega))
      have hz := (hI.ru (r := r) (by omega)).2.1
      refine ⟨fi.1.trans q1, ?_, ?_, ?_, fj.1.trans q5, fj.2.1.trans q6, ?_, q8, fun j hj => ?_⟩
      · rw [fi.2.2.1 600 (by intro z; (try dsimp only at z); omega)]
        exact q2
      · rw [fi.2.2.1 601 (by intro z; (try dsimp only at z); omega)]
        exact q3
      · rw [fi.2.2.2.2.1 602 (by intro z; (try dsimp only at z); omega)]
        exact q4
      · rw [fi.2.2.1 603 (by intro z; (try dsimp only at z); omega)]
        exact q7
      · rw [fj.2.2.2.2.2.1 (by intro z; (try dsimp only at z); omega), G5 _ (by omega)]
        exact q9 j hj
  have hR3 : REL x o M3 W1 ha (fun i => if i = nr then gH M else ua i) ba ma ea ra rb (up1 tg (gH M + 2) (x + 10)) hr := by
    refine upd_rule (ha1 := ha) (ea1 := ea) hR hFa hWM p3 hmi hur ⟨0, e1328, by omega, fun i hi => absurd hi (by omega)⟩ ⟨by rw [j1002, e1328], fun i hi => ?_⟩ (fun y hy => if_neg (by omega)) ?_
    · rw [g23, (hFa.2.2 (x + 14) (by omega)).2.2.2.2.2.1 (by intro z; (try dsimp only at z); omega)]
      exact hTp.2 i hi
    · rw [en]
      exact p4
  exact ⟨M3, p1, hR3.to, hR3.csh, p2.2.1, by omega, by omega, by omega, by omega⟩
