/-- a new bore, its list of rings empty -/
def NB0 (M : Mem) (num pl p2 wm : Int32) : Mem := sI (sI (sI (sI (sI (sR (sR (sI (nO (nO M 2 11) 1 3) 0 (gH M + 1) 0) 1 (gH M + 1) (some (gE M))) 104 (gH M) (some (gH M + 1))) 109 (gH M) 1) 100 (gH M) num) 101 (gH M) pl) 102 (gH M) p2) 103 (gH M) wm
theorem nb0_i (M : Mem) (num pl p2 wm : Int32) (f y : Nat) : gI (NB0 M num pl p2 wm) f y = if f = 103 ∧ y = gH M then wm else if f = 102 ∧ y = gH M then p2 else if f = 101 ∧ y = gH M then pl else if f = 100 ∧ y = gH M then num else if f = 109 ∧ y = gH M then 1 else if f = 0 ∧ y = gH M + 1 then 0 else if y = gH M + 1 then 0 else if y = gH M then 0 else gI M f y := rfl
theorem nb0_r (M : Mem) (num pl p2 wm : Int32) (f y : Nat) : gR (NB0 M num pl p2 wm) f y = if f = 104 ∧ y = gH M then some (gH M + 1) else if f = 1 ∧ y = gH M + 1 then some (gE M) else if y = gH M + 1 then none else if y = gH M then none else gR M f y := rfl
theorem nb0_j (M : Mem) (num pl p2 wm : Int32) (f y : Nat) : gJ (NB0 M num pl p2 wm) f y = if y = gH M + 1 then 0 else if y = gH M then 0 else gJ M f y := rfl
theorem nb0_k (M : Mem) (num pl p2 wm : Int32) (y : Nat) : gK (NB0 M num pl p2 wm) y = if y = gH M + 1 then 1 else if y = gH M then 2 else gK M y := rfl
theorem nb0_fm (M : Mem) (num pl p2 wm : Int32) : FM M (NB0 M num pl p2 wm) (fun _ _ => False) (fun _ _ => False) (fun _ _ => False) (fun _ => False) (fun _ => False) (fun _ => False) := by
  refine ⟨show gH M ≤ gH M + 1 + 1 by omega, rfl, fun y hy => ⟨?_, rfl, fun f _ => ?_, fun f _ => ?_, fun f _ => ?_, fun _ => rfl, fun _ => rfl, fun _ => rfl⟩⟩
  · rw [nb0_k, if_neg (by omega), if_neg (by omega)]
  · rw [nb0_i, if_neg (by omega), if_neg (by omega), if_neg (by omega), if_neg (by omega), if_neg (by omega), if_neg (by omega), if_neg (by omega), if_neg (by omega)]
  · rw [nb0_j, if_neg (by omega), if_neg (by omega)]
  · rw [nb0_r, if_neg (by omega), if_neg (by omega), if_neg (by omega), if_neg (by omega)]
theorem nb0_bri {M : Mem} {tg : Nat → Nat} (hK : KH M) (hE : gE M < gH M) (htg : ∀ a, tg a < gH M) (num pl p2 wm : Int32) (H F : Nat → Int64) : BRI M (NB0 M num pl p2 wm) tg tg num pl p2 wm H F 0 (fun _ => 0) := by
  have eh : gH (NB0 M num pl p2 wm) = gH M + 2 := rfl
  have es : gS (NB0 M num pl p2 wm) = gS M + 14 := rfl
  refine ⟨nb0_fm M num pl p2 wm, ⟨fun y hy => ?_, ?_⟩, fun _ _ => rfl, fun a => ?_, ⟨by omega, by omega, by omega, by omega⟩, ⟨?_, ?_, by omega, gE M, ?_, fun z => absurd z (by omega)⟩, ⟨gE M, ?_, fun z => absurd z (by omega), fun _ => rfl⟩, ⟨?_, ?_, ?_, ?_, ?_, ?_, ?_, ?_, ?_, ?_⟩, fun j hj => absurd hj (by omega), fun i j hi => absurd hi (by omega)⟩
  · rw [nb0_k] at hy
    rw [eh]
    by_cases c1 : y = gH M + 1
    · omega
    · rw [if_neg c1] at hy
      by_cases c2 : y = gH M
      · omega
      · rw [if_neg c2] at hy
        have := hK.1 y hy
        omega
  · show gK (NB0 M num pl p2 wm) (gE M) = 0
    rw [nb0_k, if_neg (by omega), if_neg (by omega)]
    exact hK.2
  · have := htg a
    omega
  · rw [nb0_k, if_pos rfl]
  · rw [nb0_i, if_neg (by omega), if_neg (by omega), if_neg (by omega), if_neg (by omega), if_neg (by omega), if_neg (by omega), if_pos rfl]
    rfl
  · rw [nb0_r, if_neg (by omega), if_pos ⟨rfl, rfl⟩]
  · rw [nb0_r, if_neg (by omega), if_pos ⟨rfl, rfl⟩]
  · rw [nb0_k, if_neg (by omega), if_pos rfl]
  · rw [nb0_i, if_neg (by omega), if_neg (by omega), if_neg (by omega), if_pos ⟨rfl, rfl⟩]
  · rw [nb0_i, if_neg (by omega), if_neg (by omega), if_pos ⟨rfl, rfl⟩]
  · rw [nb0_i, if_neg (by omega), if_pos ⟨rfl, rfl⟩]
  · rw [nb0_i, if_pos ⟨rfl, rfl⟩]
  · rw [nb0_i, if_neg (by omega), if_neg (by omega), if_neg (by omega), if_neg (by omega), if_neg (by omega), if_neg (by omega), if_neg (by omega), if_pos rfl]
  · rw [nb0_i, if_neg (by omega), if_neg (by omega), if_neg (by omega), if_neg (by omega), if_neg (by omega), if_neg (by omega), if_neg (by omega), if_pos rfl]
  · rw [nb0_i, if_neg (by omega), if_neg (by omega), if_neg (by omega), if_neg (by omega), if_pos ⟨rfl, rfl⟩]
  · rw [nb0_j, if_neg (by omega), if_pos rfl]
  · rw [nb0_r, if_pos ⟨rfl, rfl⟩]
theorem list_init (M : Mem) (l : Nat) : F_Jx4a65c_init_da8c8 M l = some (sR (sI M 0 l 0) 1 l (some (gE M)), ()) := rfl
/-- the rings of a new bore at h, memory N -/
def RGS (fu : Nat) (N : Mem) (h : Nat) (R hd st wm : Int32) : Option (Mem × Unit) := cl (F_X4_init (nO N 6 5) (gH N) (hd.toInt64) (wm.toInt64)) fun M13 _ => bnd (sR M13 105 h (some (gH N))) fun M15 => lr (gR M15 104 h) (gK M15) 1 fun b16 => lr (gR M15 105 h) (gK M15) 6 fun b17 => cl (F_Jx4a65c_add_9ea2d M15 b16 b17) fun M18 r19 => lr (gR M18 105 h) (gK M18) 6 fun b20 => (F_X0_init_p85 F_X0_init_p128 fu) M18 h R hd st wm b20 (1 : Int32)
theorem nb0_run (M : Mem) (num pl R hd st wm : Int32) : F_X0_init (nO M 2 11) (gH M) num pl R hd st wm = RGS FU (NB0 M num (pl / (100 : Int32)) (pl - pl / (100 : Int32) * (100 : Int32)) wm) (gH M) R hd st wm := by
  unfold F_X0_init
  refine bnd_i (bnd_i ?_)
  rw [list_init, cl_some]
  refine bnd_i ?_
  rw [grd_pos (Or.inr rfl)]
  refine bnd_i (bnd_i (bnd_i (bnd_i (bnd_i (bnd_i (bnd_i ?_))))))
  rfl
theorem hold0 (hd st : Int32) : hd + Int32.ofNat 0 * st = hd := by
  rw [show Int32.ofNat 0 * st = 0 from Int32.zero_mul]
  exact Int32.add_zero hd
theorem sr_fm (G : Mem) (f0 h : Nat) (v : Option Nat) : FM G (sR G f0 h v) (fun _ _ => False) (fun _ _ => False) (fun f a => f = f0 ∧ a = h) (fun _ => False) (fun _ => False) (fun _ => False) := ⟨Nat.le_refl _, rfl, fun y _ => ⟨rfl, rfl, fun _ _ => rfl, fun _ _ => rfl, fun f z => by rw [gR_sR, if_neg z], fun _ => rfl, fun _ => rfl, fun _ => rfl⟩⟩
/-- a bore is made -/
theorem c_bore0 {fu : Nat} {M N G : Mem} {tg : Nat → Nat} {num pl p2 wm hd st : Int32} {H F : Nat → Int64} {R : Nat} (hE : gE M < gH M) (htg : ∀ a, tg a < gH M) (hR1 : 1 ≤ R) (hR : R ≤ 8) (hfu : 8 < fu) (hH : ∀ k, k < 8 → H k = (hd + Int32.ofNat k * st).toInt64) (hH0 : ∀ k, k < 8 → ¬ H k = 0) (hF : ∀ k, k < 8 → F k = ((1000 : Int64) * wm.toInt64) * H k) (hB : BRI M N tg tg num pl p2 wm H F 0 (fun _ => 0)) (eR : F_X4_init (nO N 6 5) (gH N) (hd.toInt64) (wm.toInt64) = some (G, ())) (n1 : FM N G (fun _ _ => False) (fun _ _ => False) (fun _ _ => False) (fun _ => False) (fun _ => False) (fun _ => False)) (hKG : KH G) (eG : gH G = gH N + 1) (eS : gS G = gS N + 5) (z : gK G (gH N) = 6 ∧ gJ G 500 (gH N) = H 0 ∧ gJ G 501 (gH N) = F 0 ∧ gJ G 502 (gH N) = F 0 ∧ gJ G 503 (gH N) = F 0 / H 0 ∧ gJ G 504 (gH N) = 0) : ∃ N1 tk1 r1, RGS fu N (gH M) (Int32.ofNat R) hd st wm = some (N1, ()) ∧ BRI M N1 tg tk1 num pl p2 wm H F R r1 ∧ gR N1 105 (gH M) = some (r1 0) ∧ gR N1 106 (gH M) = some (r1 (R - 1)) := by
  have hg := hB.2.2.2.2.1.1
  have hl1 := hB.2.2.2.2.2.1.1
  have b12 := hB.2.2.2.2.2.2.2.1.2.2.2.2.2.2.2.2.2
  have hKN := hB.2.1
  obtain ⟨z6, z0, z1, z2, z3, z4⟩ := z
  have n2 := sr_fm G 105 (gH M) (some (gH N))
  have n3 : FM N (sR G 105 (gH M) (some (gH N))) (fun _ _ => False) (fun _ _ => False) (fun f a => f = 105 ∧ a = gH M) (fun _ => False) (fun _ => False) (fun _ => False) := FM.seq n1 n2 (fun _ _ _ z => by rcases z with z | z <;> exact z) (fun _ _ _ z => by rcases z with z | z <;> exact z) (fun _ _ _ z => by
    rcases z with z | z
    · exact absurd z id
    · exact z) (fun _ _ z => by rcases z with z | z <;> exact z) (fun _ _ z => by rcases z with z | z <;> exact z) (fun _ _ z => by rcases z with z | z <;> exact z)
  have kP : gK G (gH M + 1) = 1 := n1.k hKN hl1 (by omega)
  have rP : gR G 104 (gH M) = some (gH M + 1) := by rw [(n1.2.2 (gH M) (by omega)).2.2.2.2.1 104 id, b12]
  have gPr : gR (sR G 105 (gH M) (some (gH N))) 104 (gH M) = some (gH M + 1) := by
    rw [gR_nf (by omega)]
    exact rP
  have gP5 : gR (sR G 105 (gH M) (some (gH N))) 105 (gH M) = some (gH N) := by rw [gR_sf, ud_s]
  have hKP : KH (sR G 105 (gH M) (some (gH N))) := ⟨fun a ha => hKG.1 a ha, hKG.2⟩
  obtain ⟨N1, tk1, s1, s2, s3⟩ := br_step hB hE htg (by omega) n3 hKP eG eS z6 z0 z1 z2 z3 z4
  have s4 : gR N1 105 (gH M) = some (gH N) := by rw [s3, gP5]
  obtain ⟨N2, tk2, r2, t1, t2, t3, t4⟩ := c_rings (R := R) (hd := hd) (st := st) hE htg hR hH hH0 hF (R - 1) 1 fu N1 tk1 (fun i => if i = 0 then gH N else 0) (by omega) (by omega) (Nat.le_refl _) s2 (by rw [s4, if_pos rfl])
  rw [if_pos (show 1 - 1 = 0 from rfl)] at t1
  refine ⟨N2, tk2, r2, ?_, t2, t3, t4⟩
  have q6 := (s2.2.2.2.2.2.2.2.2.1 0 (by omega)).1
  dsimp only at q6
  rw [if_pos rfl] at q6
  unfold RGS
  rw [eR, cl_some]
  refine bnd_i ?_
  rw [gPr]
  show lr (some (gH M + 1)) (gK G) 1 _ = _
  rw [lr_some kP, gP5]
  show lr (some (gH N)) (gK G) 6 _ = _
  rw [lr_some z6, s1, cl_some]
  dsimp only
  rw [s4, lr_some q6, show (1 : Int32) = Int32.ofNat 1 from rfl]
  exact t1
theorem c_bore1 {fu : Nat} {M N : Mem} {tg : Nat → Nat} {num pl p2 wm hd st : Int32} {H F : Nat → Int64} {R : Nat} (hE : gE M < gH M) (htg : ∀ a, tg a < gH M) (hR1 : 1 ≤ R) (hR : R ≤ 8) (hfu : 8 < fu) (hH : ∀ k, k < 8 → H k = (hd + Int32.ofNat k * st).toInt64) (hH0 : ∀ k, k < 8 → ¬ H k = 0) (hF : ∀ k, k < 8 → F k = ((1000 : Int64) * wm.toInt64) * H k) (hB : BRI M N tg tg num pl p2 wm H F 0 (fun _ => 0)) : ∃ N1 tk1 r1, RGS fu N (gH M) (Int32.ofNat R) hd st wm = some (N1, ()) ∧ BRI M N1 tg tk1 num pl p2 wm H F R r1 ∧ gR N1 105 (gH M) = some (r1 0) ∧ gR N1 106 (gH M) = some (r1 (R - 1)) := by
  have H0 : H 0 = hd.toInt64 := by rw [hH 0 (by omega), hold0]
  have hg := hB.2.2.2.2.1.1
  have hE2 := hB.1.2.1
  have eR := c_ring N wm.toInt64 (hH0 0 (by omega))
  rw [← hF 0 (by omega), H0] at eR
  rw [← H0] at eR
  exact c_bore0 (G := NG N (H 0) (F 0)) hE htg hR1 hR hfu hH hH0 hF hB (by rw [← H0]; exact eR) (ng_fm N (H 0) (F 0)) (ng_kh hB.2.1 (show gE N < gH N by omega) (H 0) (F 0)) rfl rfl (ng_j N (H 0) (F 0))
theorem c_bore {M : Mem} {tg : Nat → Nat} {num pl wm hd st : Int32} {H F : Nat → Int64} {R : Nat} (hK : KH M) (hE : gE M < gH M) (htg : ∀ a, tg a < gH M) (hR1 : 1 ≤ R) (hR : R ≤ 8) (hH : ∀ k, k < 8 → H k = (hd + Int32.ofNat k * st).toInt64) (hH0 : ∀ k, k < 8 → ¬ H k = 0) (hF : ∀ k, k < 8 → F k = ((1000 : Int64) * wm.toInt64) * H k) : ∃ N1 tk1 r1, F_X0_init (nO M 2 11) (gH M) num pl (Int32.ofNat R) hd st wm = some (N1, ()) ∧ BRI M N1 tg tk1 num (pl / (100 : Int32)) (pl - pl / (100 : Int32) * (100 : Int32)) wm H F R r1 ∧ gR N1 105 (gH M) = some (r1 0) ∧ gR N1 106 (gH M) = some (r1 (R - 1)) := by
  rw [nb0_run]
  exact c_bore1 hE htg hR1 hR (show 8 < FU by unfold FU; omega) hH hH0 hF (nb0_bri hK hE htg num (pl / (100 : Int32)) (pl - pl / (100 : Int32) * (100 : Int32)) wm H F)
/-- a bore is made and laid into the list L -/
theorem c_addbore {M : Mem} {tg : Nat → Nat} {num pl wm hd st : Int32} {H F : Nat → Int64} {R L n : Nat} {g : Nat → Nat} (hK : KH M) (hE : gE M < gH M) (htg : ∀ a, tg a < gH M) (hR1 : 1 ≤ R) (hR : R ≤ 8) (hH : ∀ k, k < 8 → H k = (hd + Int32.ofNat k * st).toInt64) (hH0 : ∀ k, k < 8 → ¬ H k = 0) (hF : ∀ k, k < 8 → F k = ((1000 : Int64) * wm.toInt64) * H k) (hL : LiS M L n g) (hT : TG M tg L n) (hn : n ≤ 30) (hg : ∀ i, i < n → gK M (g i) = 2) : ∃ N M1 tg1 r, F_X0_init (nO M 2 11) (gH M) num pl (Int32.ofNat R) hd st wm = some (N, ()) ∧ F_Jx4a65c_add_9ea2d N L (gH M) = some (M1, 1) ∧ LiS M1 L (n + 1) (fun i => if i = n then gH M else g i) ∧ KH M1 ∧ TG M1 tg1 L (n + 1) ∧ FM M M1 (fun f a => (f = 0 ∨ f = 2) ∧ a = L) (fun _ _ => False) (fun f a => f = 1 ∧ a = L) (fun _ => False) (fun _ => False) (fun a => tg a = L ∧ gK M a = 23) ∧ (∀ a, a < gH M → tg1 a = tg a) ∧ (∀ a, tg1 a < gH M1) ∧ BRB (gH M) M1 tg1 num (pl / (100 : Int32)) (pl - pl / (100 : Int32) * (100 : Int32)) wm H F R r ∧ gR M1 105 (gH M) = some (r 0) ∧ gR M1 106 (gH M) = some (r (R - 1)) ∧ gH M + 2 ≤ gH M1 ∧ gH M1 ≤ gH M + 20 ∧ gS M ≤ gS M1 ∧ gS M1 ≤ gS M + 800 := by
  obtain ⟨N, tk, r, e1, ⟨hMN, hKN, ht1, ht2, ⟨g1, g2, g3, g4⟩, hb⟩, e2, e3⟩ := c_bore (num := num) (pl := pl) hK hE htg hR1 hR hH hH0 hF
  have hLlt := FM.lt hK hL.1 (by omega)
  have hEN := hMN.2.1
  have hL2 : LiS N L n g := hMN.lis hK hL hT id id (fun _ _ => id)
  have hT2 : TG N tk L n := hMN.tg2 hK hL hT id ht1
  obtain ⟨M1, p1, p2, p3, p4, p5, p6, p7, p8, p9⟩ := c_add hKN (show gE N < gH N by omega) hL2 hT2 hn (fun i hi => by
    rw [hMN.k hK (hg i hi) (by omega)]
    omega) (v := gH M) (by rw [hb.2.2.1.1]; omega)
  have hh := (p5.2.2 (gH M) (by omega)).2.2.2.2.1
  refine ⟨N, M1, up1 tk (gH N) L, r, e1, p1, p2, p3, p4, FM.pre hMN p5 (fun _ _ z => z) (fun _ _ z => z) (fun _ _ z => z) (fun _ z => z) (fun _ z => z) (fun y hy z => ⟨by rw [← ht1 y hy]; exact z.1, by rw [← (hMN.2.2 y hy).1]; exact z.2⟩), fun a ha => ?_, fun a => ?_, hb.fm p5 hKN (fun f a z1 z2 => by (try dsimp only at z2); omega) (fun _ _ => id) (fun f a z1 z2 => by (try dsimp only at z2); omega) (fun a z1 z2 => by (try dsimp only at z2); omega) (fun a ha => if_neg (by omega)), ?_, ?_, by omega, by omega, by omega, by omega⟩
  · rw [← ht1 a ha]
    exact if_neg (by omega)
  · show (if a = gH N then L else tk a) < gH M1
    by_cases c : a = gH N
    · rw [if_pos c]
      omega
    · rw [if_neg c]
      have := ht2 a
      omega
  · rw [hh 105 (by intro z; (try dsimp only at z); omega)]
    exact e2
  · rw [hh 106 (by intro z; (try dsimp only at z); omega)]
    exact e3
