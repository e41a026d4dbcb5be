theorem TG.clean {M : Mem} {tg : Nat → Nat} {l n : Nat} (hl : l < gH M) (hT : TG M tg l n) : TG M (fun a => if tg a < gH M then tg a else 0) l n := by
  obtain ⟨el, t1, t2, t3⟩ := hT
  refine ⟨el, t1, fun hn => ?_, t3⟩
  dsimp only
  rw [t2 hn, if_pos hl]
theorem rel_clean {x o : Nat} {M W : Mem} {ha ua ba ma ea : Nat → Nat} {ra rb : Nat → Nat → Nat} {tg : Nat → Nat} {hr : Nat} (hR : REL x o M W ha ua ba ma ea ra rb tg hr) : ∃ tg1, REL x o M W ha ua ba ma ea ra rb tg1 hr ∧ ∀ a, tg1 a < gH M := by
  have hC := hR.csh
  have htop := hC.top
  obtain ⟨h1, h2, h3, h4, h5, h6, ⟨k0, k1, k2, k3, k4, k5, k6, k7⟩, h8⟩ := hR
  refine ⟨fun a => if tg a < gH M then tg a else 0, ⟨h1, h2, h3, h4, h5, h6, ⟨k0, k1.clean (by omega), k2.clean (by omega), k3.clean (by omega), k4.clean (by omega), k5.clean (by omega), fun b hb l hl => ?_, fun b hb l hl => ?_⟩, h8⟩, fun a => ?_⟩
  · obtain ⟨q1, q2, q3⟩ := k6 b hb l hl
    exact ⟨q1, q2, q3.clean (FM.lt k0 q2 (by omega))⟩
  · obtain ⟨q1, q2, q3⟩ := k7 b hb l hl
    exact ⟨q1, q2, q3.clean (FM.lt k0 q2 (by omega))⟩
  · dsimp only
    by_cases c : tg a < gH M
    · rw [if_pos c]
      exact c
    · rw [if_neg c]
      omega
/-- a new bore as a bore of the relation -/
theorem BRB.bo1 {h o n R : Nat} {N W : Mem} {tk r : Nat → Nat} {pl p2 wm hd st : Int32} {H F : Nat → Int64} (hB : BRB h N tk (Int32.ofNat n) pl p2 wm H F R r) (h5 : gR N 105 h = some (r 0)) (h6 : gR N 106 h = some (r (R - 1))) (e2 : gA W (o + 2) n = pl) (e3 : gA W (o + 3) n = p2) (e4 : rgW W o n = R) (e5 : gA W (o + 5) n = hd) (e6 : gA W (o + 6) n = st) (e7 : gA W (o + 7) n = wm) (hR : R ≤ 8) (hH : ∀ k, k < 8 → H k = (hd + Int32.ofNat k * st).toInt64) (hF : ∀ k, k < 8 → F k = ((1000 : Int64) * wm.toInt64) * H k) : BO1 N o W h r n := by
  obtain ⟨b1, b2, ⟨b3, b4, b5, b6, b7, b8, b9, b10, b11, b12⟩, b13, b14⟩ := hB
  refine ⟨b3, b4, by rw [e2]; exact b5, by rw [e3]; exact b6, by rw [e7]; exact b7, h5, by rw [e4]; exact h6, ⟨h + 1, b12, by rw [e4]; exact b1⟩, fun k hk => ?_⟩
  rw [e4] at hk
  obtain ⟨q1, q2, q3, -⟩ := b13 k hk
  unfold firstS holdS
  rw [e5, e6, e7, ← hH k (by omega), ← hF k (by omega)]
  exact ⟨q1, q2, q3⟩
theorem MSh.sa {o : Nat} {W : Mem} (h : MSh o W) (a i : Nat) (v : Int32) : MSh o (sA W a i v) := h.to rfl rfl rfl rfl
theorem MSh.si {o : Nat} {W : Mem} (h : MSh o W) (f a : Nat) (v : Int32) : MSh o (sI W f a v) := h.to rfl rfl rfl rfl
theorem m_bore {o n R : Nat} {W : Mem} (hS : MSh o W) (hn : n < 8) (hR : R ≤ 8) (h1302 : gI W 1302 o = Int32.ofNat n) (pl hd st wm : Int32) : ∃ φ, (bnd (gI W 1302 o) fun v1 =>
  bnd (sI W 1302 o ((gI W 1302 o) + (1 : Int32))) fun M2 =>
  lr (gR M2 1303 o) (gK M2) 20 fun b3 =>
  grd (inb v1 (gN M2 b3)) <| bnd (sA M2 b3 (ixn v1) (pl / (100 : Int32))) fun M4 =>
  lr (gR M4 1304 o) (gK M4) 20 fun b5 =>
  grd (inb v1 (gN M4 b5)) <| bnd (sA M4 b5 (ixn v1) (pl - pl / (100 : Int32) * (100 : Int32))) fun M6 =>
  lr (gR M6 1305 o) (gK M6) 20 fun b7 =>
  grd (inb v1 (gN M6 b7)) <| bnd (sA M6 b7 (ixn v1) (Int32.ofNat R)) fun M8 =>
  lr (gR M8 1306 o) (gK M8) 20 fun b9 =>
  grd (inb v1 (gN M8 b9)) <| bnd (sA M8 b9 (ixn v1) hd) fun M10 =>
  lr (gR M10 1307 o) (gK M10) 20 fun b11 =>
  grd (inb v1 (gN M10 b11)) <| bnd (sA M10 b11 (ixn v1) st) fun M12 =>
  lr (gR M12 1308 o) (gK M12) 20 fun b13 =>
  grd (inb v1 (gN M12 b13)) <| bnd (sA M12 b13 (ixn v1) wm) fun M14 =>
  lr (gR M14 1311 o) (gK M14) 22 fun b15 =>
  grd ((inb v1 (gN M14 b15)) ∧ ((1 : Int32) = 0 ∨ (1 : Int32) = 1)) <| bnd (sA M14 b15 (ixn v1) (1 : Int32)) fun M16 =>
  (F_X12_bore_p166 F_X12_bore_p199 FU) M16 o (Int32.ofNat R) v1 (0 : Int32)) = some (wB (BW W o n (pl / (100 : Int32)) (pl - pl / (100 : Int32) * (100 : Int32)) (Int32.ofNat R) hd st wm) (o + 11) φ, Int32.ofNat n) ∧ (∀ i, ¬ (8 * n ≤ i ∧ i < 8 * n + R) → φ i = gB W (o + 11) i) ∧ ∀ j, j < R → φ (8 * n + j) = ((1000 : Int64) * wm.toInt64) * (hd + Int32.ofNat j * st).toInt64 := by
  have i1 : inb (Int32.ofNat n) 8 := ofN_inb (by omega) hn
  have i2 : ixn (Int32.ofNat n) = n := ofN_ix (by omega)
  have s1 := hS.si 1302 o (Int32.ofNat (n + 1))
  have s2 := s1.sa (o + 2) n (pl / (100 : Int32))
  have s3 := s2.sa (o + 3) n (pl - pl / (100 : Int32) * (100 : Int32))
  have s4 := s3.sa (o + 4) n (Int32.ofNat R)
  have s5 := s4.sa (o + 5) n hd
  have s6 := s5.sa (o + 6) n st
  have s7 := s6.sa (o + 7) n wm
  have s8 := s7.sa (o + 10) n 1
  obtain ⟨-, -, -, a5, a6, a7, -⟩ := bw_a W o n (pl / (100 : Int32)) (pl - pl / (100 : Int32) * (100 : Int32)) (Int32.ofNat R) hd st wm
  have eB : gB (BW W o n (pl / (100 : Int32)) (pl - pl / (100 : Int32) * (100 : Int32)) (Int32.ofNat R) hd st wm) = gB W := by
    unfold BW
    rw [gB_sA, gB_sA, gB_sA, gB_sA, gB_sA, gB_sA, gB_sA]
    rfl
  have hBW : MSh o (BW W o n (pl / (100 : Int32)) (pl - pl / (100 : Int32) * (100 : Int32)) (Int32.ofNat R) hd st wm) := s8
  obtain ⟨φ, t1, t2, t3⟩ := m_rings hBW hn hR R 0 FU (gB (BW W o n (pl / (100 : Int32)) (pl - pl / (100 : Int32) * (100 : Int32)) (Int32.ofNat R) hd st wm) (o + 11)) (by omega) (by unfold FU; omega)
  rw [wB_self] at t1
  refine ⟨φ, ?_, fun i hi => ?_, fun j hj => ?_⟩
  · rw [h1302]
    refine bnd_i (bnd_i ?_)
    rw [show Int32.ofNat n + (1 : Int32) = Int32.ofNat (n + 1) from ofN_succ, s1.r1303, lr_some s1.k2, s1.n2, grd_pos i1, i2]
    refine bnd_i ?_
    rw [s2.r1304, lr_some s2.k3, s2.n3, grd_pos i1]
    refine bnd_i ?_
    rw [s3.r1305, lr_some s3.k4, s3.n4, grd_pos i1]
    refine bnd_i ?_
    rw [s4.r1306, lr_some s4.k5, s4.n5, grd_pos i1]
    refine bnd_i ?_
    rw [s5.r1307, lr_some s5.k6, s5.n6, grd_pos i1]
    refine bnd_i ?_
    rw [s6.r1308, lr_some s6.k7, s6.n7, grd_pos i1]
    refine bnd_i ?_
    rw [s7.r1311, lr_some s7.k10, s7.n10, grd_pos ⟨i1, Or.inr rfl⟩]
    refine bnd_i ?_
    unfold BW at t1 ⊢
    rw [show (0 : Int32) = Int32.ofNat 0 from rfl]
    exact t1
  · rw [t2 i (by omega), eB]
  · rw [t3 j (by omega) hj, a5, a6, a7]
    unfold firstS holdS
    rw [ud_s, ud_s, ud_s]
