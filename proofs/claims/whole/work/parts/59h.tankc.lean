theorem tk_neg {c j : Nat} (hc : c ≤ 9) (hj : j ≤ 6) (h : ¬ 3 ≤ c + j) : Int32.ofNat c + dI j < 0 := by
  rw [i32_lt, dI_c hc (by omega)]
  show _ < (0 : Int)
  omega
theorem tk_nn {c j : Nat} (hc : c ≤ 9) (hj : j ≤ 6) (h : 3 ≤ c + j) : ¬ Int32.ofNat c + dI j < 0 := by
  rw [i32_lt, dI_c hc (by omega)]
  show ¬ _ < (0 : Int)
  omega
theorem tk_le {c j cr : Nat} (hc : c ≤ 9) (hj : j ≤ 6) (hcr : cr ≤ 9) (h : c + j ≤ cr + 3) : ¬ Int32.ofNat cr < Int32.ofNat c + dI j := by
  rw [i32_lt, dI_c hc (by omega), ofN_toInt (by omega)]
  omega
theorem tk_gt {c j cr : Nat} (hc : c ≤ 9) (hj : j ≤ 6) (hcr : cr ≤ 9) (h : ¬ c + j ≤ cr + 3) : Int32.ofNat cr < Int32.ofNat c + dI j := by
  rw [i32_lt, dI_c hc (by omega), ofN_toInt (by omega)]
  omega
theorem tk_9 {c j cr : Nat} (hc : c ≤ 9) (hj : j ≤ 6) (hcr : cr ≤ 9) (h : c + j ≤ cr + 3) : Int32.ofNat c + dI j ≤ 9 := by
  rw [i32_le, dI_c hc (by omega)]
  show _ ≤ (9 : Int)
  omega
theorem tk_h0 {h : Nat} (hh : h < 24) : ¬ Int32.ofNat h < 0 := by
  rw [i32_lt, ofN_toInt (by omega)]
  show ¬ _ < (0 : Int)
  omega
theorem tk_h24 {h : Nat} (hh : h < 24) : ¬ (24 : Int32) ≤ Int32.ofNat h := by
  rw [show (24 : Int32) = Int32.ofNat 24 from rfl, ofN_le (by omega) (by omega)]
  omega
theorem bnd_i {α β : Type} {a : α} {k : α → Option β} {r : Option β} (h : k a = r) : bnd a k = r := h
theorem c_costOf {x : Nat} {M : Mem} (hC : CSh x M) {cr : Nat} {nd pr : Nat → Int64} {sz : Int64} {β : Nat → Nat → Int64} {h c j : Nat} {nx : Nat → Int64} (h900 : gI M 900 (x + 16) = Int32.ofNat cr) (hsz : (gI M 901 (x + 16)).toInt64 = sz) (hT : TK cr nd pr sz) (hh : h < 24) (hc : c ≤ cr) (hj : j ≤ 6) (hn : β (x + 18) h = nd h) (hp : β (x + 19) h = pr h) (hnx : ∀ c', c' ≤ cr → β (x + (21 + (h + 1))) c' = nx c') : F_X8_costOf (ZB M β) (x + 16) (Int32.ofNat h) (Int32.ofNat c) (dI j) = some (ZB M β, cvS cr nd pr sz h nx c j) := by
  have hcr := hT.1
  have hc9 : c ≤ 9 := Nat.le_trans hc hcr
  have i1 : inb (Int32.ofNat h) 24 := ofN_inb (by omega) hh
  have i2 : ixn (Int32.ofNat h) = h := ofN_ix (by omega)
  have i3 : inb (Int32.ofNat (h + 1)) 25 := ofN_inb (by omega) (by omega)
  have i4 : ixn (Int32.ofNat (h + 1)) = h + 1 := ofN_ix (by omega)
  have n1 := tk_h0 hh
  have n2 := tk_h24 hh
  have g1 : ¬ 3 ≤ c + j → Int32.ofNat c + dI j < 0 := tk_neg hc9 hj
  have g2 : 3 ≤ c + j → ¬ Int32.ofNat c + dI j < 0 := tk_nn hc9 hj
  have g3 : c + j ≤ cr + 3 → ¬ Int32.ofNat cr < Int32.ofNat c + dI j := tk_le hc9 hj hcr
  have g4 : ¬ c + j ≤ cr + 3 → Int32.ofNat cr < Int32.ofNat c + dI j := tk_gt hc9 hj hcr
  have g5 : c + j ≤ cr + 3 → Int32.ofNat c + dI j ≤ 9 := tk_9 hc9 hj hcr
  have e1 : 3 ≤ c + j → Int32.ofNat c + dI j = Int32.ofNat (c + j - 3) := dI_n hc9 (Nat.le_trans hj (by decide))
  have i5 : c + j ≤ cr + 3 → inb (Int32.ofNat (c + j - 3)) 10 := fun k => ofN_inb (by omega) (by omega)
  have i6 : c + j ≤ cr + 3 → ixn (Int32.ofNat (c + j - 3)) = c + j - 3 := fun k => ofN_ix (by omega)
  have hnx2 : c + j ≤ cr + 3 → β (x + (21 + (h + 1))) (c + j - 3) = nx (c + j - 3) := fun k => hnx _ (by omega)
  obtain ⟨r1, r2, r3⟩ := hC.cr (i := h + 1) (by omega)
  have eb : nd h + (dI j).toInt64 * sz = boS nd sz h j := rfl
  have ez : ∀ b : Int64, 0 ≤ b.toInt → 0 ≤ lg_cmp b (0 : Int64) := fun b k => (lg_cmp_ge _ _).mpr (i64_le.mpr (by rw [z64]; exact k))
  have ez2 : ∀ b : Int64, ¬ 0 ≤ b.toInt → ¬ 0 ≤ lg_cmp b (0 : Int64) := fun b k z => k (by have := i64_le.mp ((lg_cmp_ge _ _).mp z); rw [z64] at this; exact this)
  clear hnx
  unfold F_X8_costOf
  refine bnd_i ?_
  rw [if_neg n1, if_neg n2]
  by_cases c1 : 3 ≤ c + j
  · rw [if_neg (g2 c1), gI_ZB, h900]
    by_cases c2 : c + j ≤ cr + 3
    · rw [if_neg (g3 c2), if_pos (g5 c2)]
      have i5 := i5 c2
      have i6 := i6 c2
      rw [gR_ZB, gK_ZB, hC.r903, lr_some hC.k18, gN_ZB, hC.n18, grd_pos i1, gB_ZB, i2, hn, hsz]
      refine bnd_i ?_
      rw [eb]
      by_cases c3 : 0 ≤ (boS nd sz h j).toInt
      · rw [if_pos (ez _ c3), hC.r904, lr_some hC.k19, hC.n19, grd_pos i1, hC.r905, lr_some hC.k20, hC.n20, ofN_add1, grd_pos i3, gO_ZB, i4, r1, lr_some r2, r3, e1 c1, grd_pos i5, hp, i6, hnx2 c2]
        have ec : cvS cr nd pr sz h nx c j = coS nd pr sz h j + nx (c + j - 3) := if_pos ⟨c1, c2, c3⟩
        rw [ec]
        rfl
      · rw [if_neg (ez2 _ c3)]
        have ec : cvS cr nd pr sz h nx c j = 4000000000000000000 := if_neg (fun k => c3 k.2.2)
        rw [ec]
        rfl
    · rw [if_pos (g4 c2)]
      have ec : cvS cr nd pr sz h nx c j = 4000000000000000000 := if_neg (fun k => c2 k.2.1)
      rw [ec]
      rfl
  · rw [if_pos (g1 c1)]
    have ec : cvS cr nd pr sz h nx c j = 4000000000000000000 := if_neg (fun k => c1 k.1)
    rw [ec]
    rfl
