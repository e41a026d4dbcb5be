theorem two_f (n v : Nat) (g : Nat → Nat) : ∃ f : Nat → Nat, f n = v ∧ ∀ b, ¬ b = n → f b = g b := ⟨fun b => if b = n then v else g b, if_pos rfl, fun _ h => if_neg h⟩
theorem two_g (n : Nat) (v : Nat → Nat) (g : Nat → Nat → Nat) : ∃ f : Nat → Nat → Nat, f n = v ∧ ∀ b, ¬ b = n → f b = g b := ⟨fun b => if b = n then v else g b, if_pos rfl, fun _ h => if_neg h⟩
/-- bores of a ground object with one more -/
theorem bos_new {p o n h R : Nat} {M W M2 W1 : Mem} {ba ba1 r : Nat → Nat} {ra ra1 : Nat → Nat → Nat} (hn : nbW W o = n) (hn1 : nbW W1 o = n + 1) (hrg : rgW W1 o n = R) (hro : ∀ b, b < n → rgW W1 o b = rgW W o b) (hB : BoS p M o W ba ra) (bn : ba1 n = h) (bo : ∀ b, ¬ b = n → ba1 b = ba b) (rn : ra1 n = r) (ro : ∀ b, ¬ b = n → ra1 b = ra b) (hL : LiS M2 (p + 1) (n + 1) (fun i => if i = n then h else ba i)) (hnew : BO1 M2 o W1 h r n) (hold : ∀ b, b < n → BO1 M2 o W1 (ba b) (ra b) b) (g1 : ∀ b, b < n → ba b < h) (g2 : ∀ b k, b < n → k < rgW W o b → ra b k < h) (g3 : ∀ k, k < R → h + 2 ≤ r k) (g4 : ∀ i j, i < R → j < R → r i = r j → i = j) : BoS p M2 o W1 ba1 ra1 := by
  obtain ⟨b1, b2, b3, b4⟩ := hB
  rw [hn] at b2 b3
  have eb : (fun i => if i = n then h else ba i) = ba1 := by
    funext i
    by_cases c : i = n
    · rw [if_pos c, c, bn]
    · rw [if_neg c, bo i c]
  rw [eb] at hL
  have key : ∀ b, b < n + 1 → BO1 M2 o W1 (ba1 b) (ra1 b) b := by
    intro b hb
    by_cases c : b = n
    · rw [c, bn, rn]
      exact hnew
    · rw [bo b c, ro b c]
      exact hold b (by omega)
  unfold BoS
  rw [hn1]
  refine ⟨hL, fun b k b' k' hb hk hb' hk' e => ?_, fun b b' hb hb' e => ?_, key⟩
  · by_cases c : b = n
    · by_cases c' : b' = n
      · rw [c, rn, c', rn] at e
        rw [c, hrg] at hk
        rw [c', hrg] at hk'
        exact ⟨by omega, g4 _ _ hk hk' e⟩
      · rw [hro b' (by omega)] at hk'
        rw [c, rn, ro b' c'] at e
        rw [c, hrg] at hk
        have := g3 k hk
        have := g2 b' k' (by omega) hk'
        omega
    · by_cases c' : b' = n
      · rw [hro b (by omega)] at hk
        rw [c', rn, ro b c] at e
        rw [c', hrg] at hk'
        have := g3 k' hk'
        have := g2 b k (by omega) hk
        omega
      · rw [hro b (by omega)] at hk
        rw [hro b' (by omega)] at hk'
        rw [ro b c, ro b' c'] at e
        exact b2 b k b' k' (by omega) hk (by omega) hk' e
  · by_cases c : b = n
    · by_cases c' : b' = n
      · omega
      · rw [c, bn, bo b' c'] at e
        have := g1 b' (by omega)
        omega
    · by_cases c' : b' = n
      · rw [c', bn, bo b c] at e
        have := g1 b (by omega)
        omega
      · rw [bo b c, bo b' c'] at e
        exact b3 b b' (by omega) (by omega) e
theorem r_bore {x o : Nat} {M W : Mem} {ha ua ba ma ea : Nat → Nat} {ra rb : Nat → Nat → Nat} {tg : Nat → Nat} {hr : Nat} (hR0 : REL x o M W ha ua ba ma ea ra rb tg hr) {n R : Nat} (hn : nbW W o = n) (h8 : n < 8) (hR1 : 1 ≤ R) (hR8 : R ≤ 8) {pl hd st wm : Int32} (bp : bt pl 0 9999) (bh : bt hd 100 9999) (bs : bt st 0 999) (bw : bt wm 0 99) {φ : Nat → Int64} (p1 : ∀ i, ¬ (8 * n ≤ i ∧ i < 8 * n + R) → φ i = gB W (o + 11) i) (p2 : ∀ j, j < R → φ (8 * n + j) = ((1000 : Int64) * wm.toInt64) * (hd + Int32.ofNat j * st).toInt64) : ∃ N1 M1 N2 M2, F_X0_init (nO M 2 11) (gH M) (Int32.ofNat n) pl (Int32.ofNat R) hd st wm = some (N1, ()) ∧ F_Jx4a65c_add_9ea2d N1 (x + 47) (gH M) = some (M1, 1) ∧ CSh x M1 ∧ F_X0_init (nO M1 2 11) (gH M1) (Int32.ofNat n) pl (Int32.ofNat R) hd st wm = some (N2, ()) ∧ F_Jx4a65c_add_9ea2d N2 (x + 50) (gH M1) = some (M2, 1) ∧ Rel x o M2 (wB (BW W o n (pl / (100 : Int32)) (pl - pl / (100 : Int32) * (100 : Int32)) (Int32.ofNat R) hd st wm) (o + 11) φ) ∧ gH M ≤ gH M2 ∧ gH M2 ≤ gH M + 1000 ∧ gS M ≤ gS M2 ∧ gS M2 ≤ gS M + 10000 := by
  obtain ⟨tg, hR, htg⟩ := rel_clean hR0
  have hC := hR.csh
  have hI := hR.mi
  have hBo := hR.bos
  have hBH := hR.boh
  have hDR := hR.dr
  obtain ⟨-, -, hBm, hDJ, hDB⟩ := hR.1
  have e9 := hR.2.1.2.2.2.2.2.2.2.2
  have e2 := hR.2.1.2.1
  obtain ⟨hK, kT2, kT10, kT47, kT50, kT52, k6, k7⟩ := id hR.2.2.2.2.2.2.1
  have htop := hC.top
  have hE : gE M < gH M := by
    have := hC.emp
    omega
  have hLo := hBo.1
  have hLm := hBm.1
  unfold E9 at e9
  rw [hn] at kT47 kT50 hLo hLm e9
  have hH0 : ∀ k, k < 8 → ¬ (hd + Int32.ofNat k * st).toInt64 = 0 := fun k hk => by
    have h3 : 100 ≤ ((hd + Int32.ofNat k * st).toInt64).toInt := (hold_bt (hd := fun _ => hd) (st := fun _ => st) (b := 0) bh bs hk).2.1
    exact i64_ne (by omega)
  have hg47 : ∀ i, i < n → gK M (ba i) = 2 := fun i hi => (hBo.2.2.2 i (by omega)).1
  have hg50 : ∀ i, i < n → gK M (ma i) = 2 := fun i hi => (hBm.2.2.2 i (by omega)).1
  obtain ⟨N1, M1, t1, r1, c1, c2, c3, c4, c5, f1, c7, c8, brb1, c10, c11, c12, c13, c14, c15⟩ := c_addbore (num := Int32.ofNat n) (pl := pl) (wm := wm) (hd := hd) (st := st) (H := fun k => (hd + Int32.ofNat k * st).toInt64) (F := fun k => ((1000 : Int64) * wm.toInt64) * (hd + Int32.ofNat k * st).toInt64) (R := R) hK hE htg hR1 hR8 (fun _ _ => rfl) hH0 (fun _ _ => rfl) hLo kT47 (by omega) hg47
  have hE1 := f1.2.1
  have hC1 : CSh x M1 := f1.csh hK hC (by intro f a z1 z2 z; (try dsimp only at z); omega) (by
    intro z
    have := hC.k20
    (try dsimp only at z)
    omega)
  have hLm1 : LiS M1 (x + 50) n ma := f1.lis hK hLm kT50 (by intro z; (try dsimp only at z); omega) (by intro z; (try dsimp only at z); omega) (by intro a z1 z; (try dsimp only at z); omega)
  have hTm1 : TG M1 t1 (x + 50) n := f1.tg2 hK hLm kT50 (by intro z; (try dsimp only at z); omega) c7
  obtain ⟨N2, M2, t2, r2, d1, d2, d3, d4, d5, f2, d7, d8, brb2, d10, d11, d12, d13, d14, d15⟩ := c_addbore (M := M1) (num := Int32.ofNat n) (pl := pl) (wm := wm) (hd := hd) (st := st) (H := fun k => (hd + Int32.ofNat k * st).toInt64) (F := fun k => ((1000 : Int64) * wm.toInt64) * (hd + Int32.ofNat k * st).toInt64) (R := R) c4 (by omega) c8 hR1 hR8 (fun _ _ => rfl) hH0 (fun _ _ => rfl) hLm1 hTm1 (by omega) (fun i hi => f1.k hK (hg50 i hi) (by omega))
  have hF : FM M M2 (fun f a => (f = 0 ∨ f = 2) ∧ (a = x + 47 ∨ a = x + 50)) (fun _ _ => False) (fun f a => f = 1 ∧ (a = x + 47 ∨ a = x + 50)) (fun _ => False) (fun _ => False) (fun a => (tg a = x + 47 ∨ tg a = x + 50) ∧ gK M a = 23) := FM.seq f1 f2 (fun f a _ z => by
    rcases z with z | z
    · exact ⟨z.1, Or.inl z.2⟩
    · exact ⟨z.1, Or.inr z.2⟩) (fun _ _ _ z => by rcases z with z | z <;> exact z) (fun f a _ z => by
    rcases z with z | z
    · exact ⟨z.1, Or.inl z.2⟩
    · exact ⟨z.1, Or.inr z.2⟩) (fun _ _ z => by rcases z with z | z <;> exact z) (fun _ _ z => by rcases z with z | z <;> exact z) (fun a ha z => by
    rcases z with z | z
    · exact ⟨Or.inl z.1, z.2⟩
    · exact ⟨Or.inr (by rw [← c7 a ha]; exact z.1), by rw [← (f1.2.2 a ha).1]; exact z.2⟩)
  have brb1' : BRB (gH M) M2 t2 (Int32.ofNat n) (pl / (100 : Int32)) (pl - pl / (100 : Int32) * (100 : Int32)) wm (fun k => (hd + Int32.ofNat k * st).toInt64) (fun k => ((1000 : Int64) * wm.toInt64) * (hd + Int32.ofNat k * st).toInt64) R r1 := brb1.fm f2 c4 (by intro f a z1 z; (try dsimp only at z); omega) (fun _ _ => id) (by intro f a z1 z; (try dsimp only at z); omega) (by intro a z1 z; (try dsimp only at z); omega) d7
  have fh := (f2.2.2 (gH M) (by omega)).2.2.2.2.1
  have c10' : gR M2 105 (gH M) = some (r1 0) := by
    rw [fh 105 (by intro z; (try dsimp only at z); omega)]
    exact c10
  have c11' : gR M2 106 (gH M) = some (r1 (R - 1)) := by
    rw [fh 106 (by intro z; (try dsimp only at z); omega)]
    exact c11
  -- the model
  have hWM := bw_wm W o n (pl / (100 : Int32)) (pl - pl / (100 : Int32) * (100 : Int32)) (Int32.ofNat R) hd st wm φ
  obtain ⟨a2, a3, a4, a5, a6, a7, a10⟩ := bw_a W o n (pl / (100 : Int32)) (pl - pl / (100 : Int32) * (100 : Int32)) (Int32.ofNat R) hd st wm
  have a1302 := bw_n W o n (pl / (100 : Int32)) (pl - pl / (100 : Int32) * (100 : Int32)) (Int32.ofNat R) hd st wm
  rw [← gA_wB _ (o + 11) φ] at a2 a3 a4 a5 a6 a7 a10
  rw [← gI_wB _ (o + 11) φ] at a1302
  have b11 : gB (wB (BW W o n (pl / (100 : Int32)) (pl - pl / (100 : Int32) * (100 : Int32)) (Int32.ofNat R) hd st wm) (o + 11) φ) (o + 11) = φ := by rw [gB_wB, if_pos rfl]
  generalize wB (BW W o n (pl / (100 : Int32)) (pl - pl / (100 : Int32) * (100 : Int32)) (Int32.ofNat R) hd st wm) (o + 11) φ = W1 at hWM a2 a3 a4 a5 a6 a7 a10 a1302 b11 ⊢
  have a8 := hWM.a (j := 8) (by intro z; (try dsimp only at z); omega)
  have a9 := hWM.a (j := 9) (by intro z; (try dsimp only at z); omega)
  have b12 := hWM.b (j := 12) (by intro z; (try dsimp only at z); omega)
  have b13 := hWM.b (j := 13) (by intro z; (try dsimp only at z); omega)
  have i1312 := hWM.i (f := 1312) (by intro z; (try dsimp only at z); omega)
  have hn1 : nbW W1 o = n + 1 := by
    unfold nbW
    rw [a1302, ofN_ix (by omega)]
  have hrg : rgW W1 o n = R := by
    unfold rgW
    rw [a4, ud_s, ofN_ix (by omega)]
  have hro : ∀ b, b < n → rgW W1 o b = rgW W o b := fun b hb => by
    unfold rgW
    rw [a4, ud_n _ (by omega)]
  have oldw : ∀ (a : Nat) (r : Nat → Nat) (b : Nat), b < n → BO1 M2 o W a r b → BO1 M2 o W1 a r b := fun a r b hb hB => hB.wm (by rw [a2, ud_n _ (by omega)]) (by rw [a3, ud_n _ (by omega)]) (by rw [a4, ud_n _ (by omega)]) (by rw [a5, ud_n _ (by omega)]) (by rw [a6, ud_n _ (by omega)]) (by rw [a7, ud_n _ (by omega)])
  have oldo : ∀ b, b < n → BO1 M2 o W1 (ba b) (ra b) b := fun b hb => oldw _ _ _ hb (BO1.fm (tg := tg) (show BO1 M o W (ba b) (ra b) b from hBo.2.2.2 b (by omega)) hF hK (fun l hl => (k6 b (by omega) l hl).2.2) (by
    intro f y z1 z
    (try dsimp only at z)
    rcases z1 with ⟨q1, q2⟩ | z1
    · have := (k6 b (by omega) _ q2).1
      omega
    · omega) (by
    intro f y z1 z
    (try dsimp only at z)
    rcases z1 with ⟨q1, q2⟩ | z1
    · have := (k6 b (by omega) _ q2).1
      omega
    · omega) (by
    intro y z1 z
    (try dsimp only at z)
    have := (k6 b (by omega) _ z1).1
    omega) (fun _ _ _ => id))
  have oldm : ∀ b, b < n → BO1 M2 o W1 (ma b) (rb b) b := fun b hb => oldw _ _ _ hb (BO1.fm (tg := tg) (show BO1 M o W (ma b) (rb b) b from hBm.2.2.2 b (by omega)) hF hK (fun l hl => (k7 b (by omega) l hl).2.2) (by
    intro f y z1 z
    (try dsimp only at z)
    rcases z1 with ⟨q1, q2⟩ | z1
    · have := (k7 b (by omega) _ q2).1
      omega
    · omega) (by
    intro f y z1 z
    (try dsimp only at z)
    rcases z1 with ⟨q1, q2⟩ | z1
    · have := (k7 b (by omega) _ q2).1
      omega
    · omega) (by
    intro y z1 z
    (try dsimp only at z)
    have := (k7 b (by omega) _ z1).1
    omega) (fun _ _ _ => id))
  have newo : BO1 M2 o W1 (gH M) r1 n := brb1'.bo1 c10' c11' (by rw [a2, ud_s]) (by rw [a3, ud_s]) hrg (by rw [a5, ud_s]) (by rw [a6, ud_s]) (by rw [a7, ud_s]) hR8 (fun _ _ => rfl) (fun _ _ => rfl)
  have newm : BO1 M2 o W1 (gH M1) r2 n := brb2.bo1 d10 d11 (by rw [a2, ud_s]) (by rw [a3, ud_s]) hrg (by rw [a5, ud_s]) (by rw [a6, ud_s]) (by rw [a7, ud_s]) hR8 (fun _ _ => rfl) (fun _ _ => rfl)
  have lba : ∀ b, b < n → ba b < gH M := fun b hb => FM.lt hK (hg47 b hb) (by omega)
  have lma : ∀ b, b < n → ma b < gH M := fun b hb => FM.lt hK (hg50 b hb) (by omega)
  have lra : ∀ b k, b < n → k < rgW W o b → ra b k < gH M := fun b k hb hk => FM.lt hK ((hBo.2.2.2 b (by omega)).2.2.2.2.2.2.2.2 k hk).1 (by omega)
  have lrb : ∀ b k, b < n → k < rgW W o b → rb b k < gH M := fun b k hb hk => FM.lt hK ((hBm.2.2.2 b (by omega)).2.2.2.2.2.2.2.2 k hk).1 (by omega)
  have lr1 : ∀ k, k < R → gH M + 2 ≤ r1 k := fun k hk => (brb1.2.2.2.1 k hk).2.2.2.2.2.2
  have lr1' : ∀ k, k < R → r1 k < gH M1 := fun k hk => FM.lt c4 (brb1.2.2.2.1 k hk).1 (by omega)
  have lr2 : ∀ k, k < R → gH M1 + 2 ≤ r2 k := fun k hk => (brb2.2.2.2.1 k hk).2.2.2.2.2.2
  obtain ⟨ba1, bn, bo⟩ := two_f n (gH M) ba
  obtain ⟨ma1, mn, mo⟩ := two_f n (gH M1) ma
  obtain ⟨ra1, rn, ro⟩ := two_g n r1 ra
  obtain ⟨rb1, sn, so⟩ := two_g n r2 rb
  have l47 : LiS M2 (x + 47) (n + 1) (fun i => if i = n then gH M else ba i) := f2.lis c4 c3 c5 (by intro z; (try dsimp only at z); omega) (by intro z; (try dsimp only at z); omega) (by intro a z1 z; (try dsimp only at z); omega)
  have t47 : TG M2 t2 (x + 47) (n + 1) := f2.tg2 c4 c3 c5 (by intro z; (try dsimp only at z); omega) d7
  have g_bos : BoS (x + 46) M2 o W1 ba1 ra1 := bos_new hn hn1 hrg hro hBo bn bo rn ro l47 newo oldo lba lra lr1 brb1.2.2.2.2
  have g_bom : BoS (x + 49) M2 o W1 ma1 rb1 := bos_new hn hn1 hrg hro hBm mn mo sn so d3 newm oldm (fun b hb => by have := lma b hb; omega) (fun b k hb hk => by have := lrb b k hb hk; omega) lr2 brb2.2.2.2.2
  have g_mi : MI o W1 := by
    refine mi_bore hI (hWM.mono (fun _ z => z) (fun j z => by omega) (fun j z => by omega)) ⟨by rw [hn1]; exact a1302, by omega⟩ (fun b hb => ?_) (fun b hb => ?_) (fun b hb => ?_)
    · rw [hn1] at hb
      by_cases c : b = n
      · rw [c, hrg, a4, ud_s]
        exact ⟨rfl, hR1, hR8⟩
      · rw [hro b (by omega), a4, ud_n _ c]
        exact ⟨hI.rg (by omega), hI.rg1 (by omega), hI.rg8 (by omega)⟩
    · rw [hn1] at hb
      by_cases c : b = n
      · obtain ⟨q8, q9, -⟩ := e9 n (Nat.le_refl _) h8
        rw [c, a2, a3, a5, a6, a7, a8, a9, ud_s, ud_s, ud_s, ud_s, ud_s, q8, q9]
        obtain ⟨P, hP, hP2⟩ : ∃ P : Nat, pl = Int32.ofNat P ∧ P ≤ 9999 := ⟨pl.toInt.toNat, by
          apply Int32.toInt_inj.mp
          have := bp.1
          have := bp.2
          rw [ofN_toInt (by omega)]
          omega, by
          have := bp.2
          omega⟩
        have d100 : pl / (100 : Int32) = Int32.ofNat (P / 100) := by
          rw [hP]
          exact ofN_divk (by omega) 100 (by omega) (by omega)
        have m100 : pl - pl / (100 : Int32) * (100 : Int32) = Int32.ofNat (P % 100) := by
          rw [hP]
          exact ofN_modk (by omega) 100 (by omega) (by omega)
        rw [m100, d100]
        have z0 : (0 : Int32).toInt = 0 := by decide
        have y1 := ofN_toInt (n := P / 100) (by omega)
        have y2 := ofN_toInt (n := P % 100) (by omega)
        exact ⟨bh, bs, bw, ⟨by omega, by omega⟩, ⟨by omega, by omega⟩, ⟨by omega, by omega⟩, ⟨by omega, by omega⟩⟩
      · rw [a2, a3, a5, a6, a7, a8, a9, ud_n _ c, ud_n _ c, ud_n _ c, ud_n _ c, ud_n _ c]
        exact hI.bo (by omega)
    · rw [a10]
      by_cases c : b = n
      · rw [c, ud_s]
        exact Or.inr rfl
      · rw [ud_n _ c]
        exact hI.op hb
  have g_boh : BoH (x + 46) M2 o W1 ba1 := by
    refine ⟨?_, fun b hb => ?_⟩
    · rw [(hF.2.2 (x + 46) (by omega)).2.2.1 205 (by intro z; (try dsimp only at z); omega), i1312]
      exact hBH.1
    · rw [hn1] at hb
      rw [a8, a9, a10]
      by_cases c : b = n
      · obtain ⟨q8, q9, -⟩ := e9 n (Nat.le_refl _) h8
        obtain ⟨-, -, ⟨-, -, -, -, -, w7, w8, w9, -⟩, -⟩ := brb1'
        rw [c, bn, ud_s, q8, q9]
        exact ⟨w7, w8, w9⟩
      · rw [bo b c, ud_n _ c]
        have fb := (hF.2.2 (ba b) (lba b (by omega))).2.2.1
        rw [fb 107 (by intro z; (try dsimp only at z); omega), fb 108 (by intro z; (try dsimp only at z); omega), fb 109 (by intro z; (try dsimp only at z); omega)]
        exact hBH.2 b (by omega)
  have ph : ∀ b k, b < n → k < rgW W o b → φ (8 * b + k) = gB W (o + 11) (8 * b + k) := fun b k hb hk => p1 _ (by
    have := hI.rg8 (b := b) (by omega)
    omega)
  have g_dr : DR (x + 46) o M2 W1 ba1 ra1 hr (gB W1 (o + 11)) (gB W1 (o + 12)) (gB W1 (o + 13)) := by
    obtain ⟨v1, v2, v3, v4, v5, v6⟩ := hDR
    have fr : ∀ b k, b < n → k < rgW W o b → ∀ f, gJ M2 f (ra b k) = gJ M f (ra b k) := fun b k hb hk f => (hF.2.2 (ra b k) (lra b k hb hk)).2.2.2.1 f id
    obtain ⟨-, -, ⟨-, -, -, -, -, -, -, -, w10, -⟩, w13, -⟩ := brb1'
    rw [b11, b12, b13]
    refine ⟨?_, fun b k hb hk => ?_, fun b k hb hk => ?_, fun b k hb hk => ?_, fun b hb => ?_, ?_⟩
    · rw [(hF.2.2 (x + 46) (by omega)).2.2.1 206 (by intro z; (try dsimp only at z); omega)]
      exact v1
    · rw [hn1] at hb
      by_cases c : b = n
      · rw [c, hrg] at hk
        rw [c, rn, p2 k hk]
        exact (w13 k hk).2.2.2.1
      · rw [hro b (by omega)] at hk
        rw [ro b c, fr b k (by omega) hk, ph b k (by omega) hk]
        exact v2 b k (by omega) hk
    · rw [hn1] at hb
      unfold wS warmS holdS
      rw [a5, a6]
      by_cases c : b = n
      · rw [c, hrg] at hk
        rw [c, rn, p2 k hk, ud_s, ud_s]
        exact (w13 k hk).2.2.2.2.1
      · rw [hro b (by omega)] at hk
        rw [ro b c, fr b k (by omega) hk, ph b k (by omega) hk, ud_n _ c, ud_n _ c]
        exact v3 b k (by omega) hk
    · rw [hn1] at hb
      by_cases c : b = n
      · rw [c, hrg] at hk
        rw [c, rn]
        exact (w13 k hk).2.2.2.2.2.1
      · rw [hro b (by omega)] at hk
        rw [ro b c, fr b k (by omega) hk]
        exact v4 b k (by omega) hk
    · rw [hn1] at hb
      by_cases c : b = n
      · rw [c, bn, (e9 n (Nat.le_refl _) h8).2.2]
        exact w10
      · rw [bo b c, (hF.2.2 (ba b) (lba b (by omega))).2.2.2.1 110 id]
        exact v5 b (by omega)
    · rw [(hF.2.2 (x + 48) (by omega)).2.2.2.2.2.2.1 id]
      exact v6
  have g_dj : DJ W1 o ra1 rb1 := by
    intro b k b' k' hb hk hb' hk' e
    rw [hn1] at hb hb'
    by_cases c : b = n
    · rw [c, hrg] at hk
      rw [c, rn] at e
      by_cases c' : b' = n
      · rw [c', hrg] at hk'
        rw [c', sn] at e
        have := lr1' k hk
        have := lr2 k' hk'
        omega
      · rw [hro b' (by omega)] at hk'
        rw [so b' c'] at e
        have := lr1 k hk
        have := lrb b' k' (by omega) hk'
        omega
    · rw [hro b (by omega)] at hk
      rw [ro b c] at e
      by_cases c' : b' = n
      · rw [c', hrg] at hk'
        rw [c', sn] at e
        have := lra b k (by omega) hk
        have := lr2 k' hk'
        omega
      · rw [hro b' (by omega)] at hk'
        rw [so b' c'] at e
        exact hDJ b k b' k' (by omega) hk (by omega) hk' e
  have g_djb : DJB W1 o ba1 ma1 := by
    intro b b' hb hb' e
    rw [hn1] at hb hb'
    by_cases c : b = n
    · rw [c, bn] at e
      by_cases c' : b' = n
      · rw [c', mn] at e
        omega
      · rw [mo b' c'] at e
        have := lma b' (by omega)
        omega
    · rw [bo b c] at e
      by_cases c' : b' = n
      · rw [c', mn] at e
        have := lba b (by omega)
        omega
      · rw [mo b' c'] at e
        exact hDB b b' (by omega) (by omega) e
  have g_e2 : E2 o W1 hr := by
    intro b k hb hk
    have f99 := g_mi.fst hb hk
    have hdb := g_mi.hd hb hk
    rw [b11]
    rw [hn1] at hb
    by_cases c : b = n
    · rw [c, hrg] at hk
      have ef : firstS (gA W1 (o + 5)) (gA W1 (o + 6)) (gA W1 (o + 7)) b k = φ (8 * b + k) := by
        rw [c, p2 k hk]
        unfold firstS holdS
        rw [a5, a6, a7, ud_s, ud_s, ud_s]
      rw [ef] at f99
      have hc : (99000 : Int) ≤ capC hr := by
        unfold capC
        omega
      have m1 : hdI W1 o b k * 99000 ≤ hdI W1 o b k * capC hr := Int.mul_le_mul_of_nonneg_left hc (by omega)
      have m2 : 0 ≤ hdI W1 o b k * capC hr := Int.mul_nonneg (by omega) (by omega)
      exact ⟨by omega, by omega⟩
    · rw [hro b (by omega)] at hk
      have eh : hdI W1 o b k = hdI W o b k := by
        unfold hdI holdS
        rw [a5, a6, ud_n _ c, ud_n _ c]
      rw [eh, ph b k (by omega) hk]
      exact e2 b k (by omega) hk
  have g_e9 : E9 o W1 := by
    intro b hb hb8
    rw [hn1] at hb
    rw [a8, a9, b12]
    exact e9 b (by omega) hb8
  have g_k6 : ∀ b, b < nbW W1 o → ∀ l, gR M2 104 (ba1 b) = some l → x + 54 ≤ l ∧ gK M2 l = 1 ∧ TG M2 t2 l (rgW W1 o b) := by
    intro b hb l hl
    rw [hn1] at hb
    by_cases c : b = n
    · rw [c, bn] at hl
      obtain ⟨w1, w2, ⟨-, -, -, -, -, -, -, -, -, w12⟩, -⟩ := brb1'
      rw [w12] at hl
      obtain rfl := Option.some.inj hl
      rw [c, hrg]
      exact ⟨by omega, w1.1, w2⟩
    · rw [bo b c, (hF.2.2 (ba b) (lba b (by omega))).2.2.2.2.1 104 (by intro z; (try dsimp only at z); omega)] at hl
      obtain ⟨q1, q2, q3⟩ := k6 b (by omega) l hl
      obtain ⟨-, -, -, -, -, -, -, ⟨l1, c8, c9⟩, -⟩ := hBo.2.2.2 b (by omega)
      rw [c8] at hl
      obtain rfl := Option.some.inj hl
      rw [hro b (by omega)]
      exact ⟨q1, hF.k hK q2 (by omega), hF.tg2 hK c9 q3 (by intro z; (try dsimp only at z); omega) (fun a ha => by rw [d7 a (by omega), c7 a ha])⟩
  have g_k7 : ∀ b, b < nbW W1 o → ∀ l, gR M2 104 (ma1 b) = some l → x + 54 ≤ l ∧ gK M2 l = 1 ∧ TG M2 t2 l (rgW W1 o b) := by
    intro b hb l hl
    rw [hn1] at hb
    by_cases c : b = n
    · rw [c, mn] at hl
      obtain ⟨w1, w2, ⟨-, -, -, -, -, -, -, -, -, w12⟩, -⟩ := brb2
      rw [w12] at hl
      obtain rfl := Option.some.inj hl
      rw [c, hrg]
      exact ⟨by omega, w1.1, w2⟩
    · rw [mo b c, (hF.2.2 (ma b) (lma b (by omega))).2.2.2.2.1 104 (by intro z; (try dsimp only at z); omega)] at hl
      obtain ⟨q1, q2, q3⟩ := k7 b (by omega) l hl
      obtain ⟨-, -, -, -, -, -, -, ⟨l1, c8, c9⟩, -⟩ := hBm.2.2.2 b (by omega)
      rw [c8] at hl
      obtain rfl := Option.some.inj hl
      rw [hro b (by omega)]
      exact ⟨q1, hF.k hK q2 (by omega), hF.tg2 hK c9 q3 (by intro z; (try dsimp only at z); omega) (fun a ha => by rw [d7 a (by omega), c7 a ha])⟩
  exact ⟨N1, M1, N2, M2, c1, c2, hC1, d1, d2, ⟨_, _, _, _, _, _, _, _, _, upd_bore hR hF hWM d4 g_mi g_bos g_boh g_dr g_bom g_dj g_djb g_e2 g_e9 (fun a ha => by rw [d7 a (by omega), c7 a ha]) (by rw [hn1]; exact t47) (by rw [hn1]; exact d5) g_k6 g_k7⟩, by omega, by omega, by omega, by omega⟩
