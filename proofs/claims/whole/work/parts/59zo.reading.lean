/-- a new reading -/
def NR (M : Mem) (a b : Int32) (c : Int64) : Mem := sJ (sI (sI (nO M 5 3) 400 (gH M) a) 401 (gH M) b) 402 (gH M) c
theorem nO_at {M : Mem} {k n y : Nat} (hy : y < gH M) : gK (nO M k n) y = gK M y ∧ (∀ f, gI (nO M k n) f y = gI M f y) ∧ (∀ f, gJ (nO M k n) f y = gJ M f y) ∧ ∀ f, gR (nO M k n) f y = gR M f y := ⟨if_neg (by omega), fun _ => if_neg (by omega), fun _ => if_neg (by omega), fun _ => if_neg (by omega)⟩
theorem nr_fm (M : Mem) (a b : Int32) (c : Int64) : FM M (NR M a b c) (fun _ _ => False) (fun _ _ => False) (fun _ _ => False) (fun _ => False) (fun _ => False) (fun _ => False) := by
  refine ⟨Nat.le_succ _, rfl, fun y hy => ⟨if_neg (by omega), rfl, fun f _ => ?_, fun f _ => ?_, fun f _ => if_neg (by omega), fun _ => rfl, fun _ => rfl, fun _ => rfl⟩⟩
  · show gI (sI (sI (nO M 5 3) 400 (gH M) a) 401 (gH M) b) f y = _
    rw [gI_sI, if_neg (by omega), gI_sI, if_neg (by omega)]
    exact if_neg (by omega)
  · show gJ (sJ _ 402 (gH M) c) f y = _
    rw [gJ_sJ, if_neg (by omega)]
    exact if_neg (by omega)
theorem nr_kh {M : Mem} (hK : KH M) (hE : gE M < gH M) (a b : Int32) (c : Int64) : KH (NR M a b c) := by
  refine ⟨fun y hy => ?_, ?_⟩
  · show y < gH M + 1
    by_cases cy : y = gH M
    · omega
    · have hy : ¬ up1 (gK M) (gH M) 5 y = 0 := hy
      rw [show up1 (gK M) (gH M) 5 y = gK M y from if_neg cy] at hy
      have := hK.1 y hy
      omega
  · show up1 (gK M) (gH M) 5 (gE M) = 0
    rw [show up1 (gK M) (gH M) 5 (gE M) = gK M (gE M) from if_neg (by omega)]
    exact hK.2
/-- the model after a reading -/
def RW (W : Mem) (o n : Nat) (a b : Int32) (c : Int64) : Mem := sI (sB (sA (sA W (o + 28) n a) (o + 29) n b) (o + 30) n c) 1336 o (Int32.ofNat (n + 1))
theorem r_reading {x o : Nat} {M W : Mem} {ha ua ba ma ea : Nat → Nat} {ra rb : Nat → Nat → Nat} {tg : Nat → Nat} {hr : Nat} (hR : REL x o M W ha ua ba ma ea ra rb tg hr) {n : Nat} (hn : ndW W o = n) (h20 : n < 20) (a : Int32) (c : Int64) : ∃ M3, F_Jx4a65c_add_9ea2d (NR M a (Int32.ofNat hr) c) (x + 52) (gH M) = some (M3, 1) ∧ Rel x o M3 (RW W o n a (Int32.ofNat hr) c) ∧ gH M ≤ gH M3 ∧ gH M3 ≤ gH M + 1000 ∧ gS M ≤ gS M3 ∧ gS M3 ≤ gS M + 10000 := by
  have hC := hR.csh
  have hRe := hR.2.2.2.2.2.1
  have hSP := hR.2.2.2.2.2.2.1
  have h7 := hR.2.1.2.2.2.2.2.2.1
  have hh2 := hR.2.1.1.2
  have hK := hSP.1
  have hT := hSP.2.2.2.2.2.1
  have hLi := hRe.1
  have hE : gE M < gH M := by
    have := hC.emp
    have := hC.top
    omega
  have htop := hC.top
  rw [hn] at hT hLi
  have hF0 := nr_fm M a (Int32.ofNat hr) c
  have hK2 := nr_kh hK hE a (Int32.ofNat hr) c
  have hL2 := hF0.lis hK hLi hT id id (fun _ _ => id)
  have hT2 : TG (NR M a (Int32.ofNat hr) c) tg (x + 52) n := hF0.tg2 hK hLi hT id (fun _ _ => rfl)
  have kv : gK (NR M a (Int32.ofNat hr) c) (gH M) = 5 := if_pos rfl
  obtain ⟨M3, p1, p2, p3, p4, p5, p6, p7, p8, p9⟩ := c_add hK2 (show gE M < gH M + 1 by omega) hL2 hT2 (by omega) (fun i hi => by
    rw [hF0.k hK (hRe.2 i (by omega)).1 (by omega)]
    omega) (v := gH M) (by rw [kv]; omega)
  have hFa : FM M M3 (fun f y => (f = 0 ∨ f = 2) ∧ y = x + 52) (fun _ _ => False) (fun f y => f = 1 ∧ y = x + 52) (fun _ => False) (fun _ => False) (fun y => tg y = x + 52 ∧ gK M y = 23) := FM.pre hF0 p5 (fun _ _ z => z) (fun _ _ z => z) (fun _ _ z => z) (fun _ z => z) (fun _ z => z) (fun y hy z => ⟨z.1, by rw [← (hF0.2.2 y hy).1]; exact z.2⟩)
  have gH2 : gH (NR M a (Int32.ofNat hr) c) = gH M + 1 := rfl
  have gS2 : gS (NR M a (Int32.ofNat hr) c) = gS M + 3 := rfl
  rw [gH2] at p6 p7
  rw [gS2] at p8 p9
  have fh := p5.2.2 (gH M) (show gH M < gH M + 1 by omega)
  have j400 : gI M3 400 (gH M) = a := by
    rw [fh.2.2.1 400 (by intro z; (try dsimp only at z); omega)]
    show gI (sI (sI (nO M 5 3) 400 (gH M) a) 401 (gH M) (Int32.ofNat hr)) 400 (gH M) = a
    rw [gI_nf (by omega), gI_sf, ud_s]
  have j401 : gI M3 401 (gH M) = Int32.ofNat hr := by
    rw [fh.2.2.1 401 (by intro z; (try dsimp only at z); omega)]
    show gI (sI (sI (nO M 5 3) 400 (gH M) a) 401 (gH M) (Int32.ofNat hr)) 401 (gH M) = _
    rw [gI_sf, ud_s]
  have j402 : gJ M3 402 (gH M) = c := by
    rw [fh.2.2.2.1 402 id]
    show gJ (sJ _ 402 (gH M) c) 402 (gH M) = c
    rw [gJ_sf, ud_s]
  have e28 : gA (RW W o n a (Int32.ofNat hr) c) (o + 28) = ud (gA W (o + 28)) n a := by
    show gA (sA (sA W (o + 28) n a) (o + 29) n (Int32.ofNat hr)) (o + 28) = _
    rw [gA_nf (by omega), gA_sf]
  have e29 : gA (RW W o n a (Int32.ofNat hr) c) (o + 29) = ud (gA W (o + 29)) n (Int32.ofNat hr) := by
    show gA (sA (sA W (o + 28) n a) (o + 29) n (Int32.ofNat hr)) (o + 29) = _
    rw [gA_sf, gA_nf (by omega)]
  have e30 : gB (RW W o n a (Int32.ofNat hr) c) (o + 30) = ud (gB W (o + 30)) n c := by
    show gB (sB _ (o + 30) n c) (o + 30) = _
    rw [gB_sf]
    rfl
  have e1 : gI (RW W o n a (Int32.ofNat hr) c) 1336 o = Int32.ofNat (n + 1) := by
    show gI (sI _ 1336 o _) 1336 o = _
    rw [gI_sI, if_pos ⟨rfl, rfl⟩]
  have en : ndW (RW W o n a (Int32.ofNat hr) c) o = n + 1 := by
    unfold ndW
    rw [e1, ofN_ix (by omega)]
  have hWM : WM o W (RW W o n a (Int32.ofNat hr) c) (fun f => f = 1336) (fun j => j = 28 ∨ j = 29) (fun j => j = 30) := by
    refine ⟨rfl, rfl, rfl, rfl, rfl, rfl, rfl, rfl, fun f z => ?_, fun j z => ?_, fun j z => ?_⟩
    · show gI (sI _ 1336 o _) f o = _
      rw [gI_sI, if_neg (fun k => z k.1)]
      rfl
    · show gA (sA (sA W (o + 28) n a) (o + 29) n _) (o + j) = _
      rw [gA_nf (by omega), gA_nf (by omega)]
    · show gB (sB _ (o + 30) n c) (o + j) = _
      rw [gB_nf (by omega)]
      rfl
  generalize RW W o n a (Int32.ofNat hr) c = W1 at *
  refine ⟨M3, p1, ⟨_, _, _, _, fun i => if i = n then gH M else ea i, _, _, up1 tg (gH M + 1) (x + 52), hr, upd_reading (ha1 := ha) (ua1 := ua) hR hFa hWM p3 ⟨?_, fun i hi => ?_⟩ ⟨?_, ?_, fun i hi => ?_⟩ (fun y hy => if_neg (by omega)) ?_⟩, by omega, by omega, by omega, by omega⟩
  · rw [en]
    exact p2
  · rw [en] at hi
    rw [e28, e29, e30]
    dsimp only
    by_cases ci : i = n
    · subst ci
      rw [if_pos rfl, ud_s, ud_s, ud_s]
      exact ⟨fh.1.trans kv, j400, j401, j402⟩
    · rw [if_neg ci, ud_n _ ci, ud_n _ ci, ud_n _ ci]
      obtain ⟨q1, q2, q3, q4⟩ := hRe.2 i (by omega)
      have fi := hFa.2.2 (ea i) (FM.lt hK q1 (by omega))
      rw [fi.2.2.1 400 (by intro z; (try dsimp only at z); omega), fi.2.2.1 401 (by intro z; (try dsimp only at z); omega), fi.2.2.2.1 402 id]
      exact ⟨fi.1.trans q1, q2, q3, q4⟩
  · rw [e1, en]
  · rw [en]
    omega
  · rw [en] at hi
    rw [e29]
    by_cases ci : i = n
    · rw [ci, ud_s]
      exact ⟨by rw [ofN_toInt (by omega)]; omega, by rw [ofN_toInt (by omega)]; omega⟩
    · rw [ud_n _ ci]
      exact h7.2.2 i (by omega)
  · rw [en]
    exact p4
