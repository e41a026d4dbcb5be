/-- the houses' need in the hour t -/
def needAt (ba mo wk jn cd : Nat → Int32) (nh t : Nat) : Int64 := needS ba mo wk jn (Int32.ofNat t) (Int32.ofNat (t / 24)) ((15 : Int32) - cd (t / 24 % 12)) nh
theorem m_needOf {o : Nat} {M : Mem} (hS : MSh o M) {nh : Nat} (hn : gI M 1316 o = Int32.ofNat nh) (h20 : nh ≤ 20) {t : Nat} (ht : t < 2147483648) :
    F_X12_needOf M o (Int32.ofNat t) = some (M, needAt (gA M (o + 14)) (gA M (o + 15)) (gA M (o + 16)) (gA M (o + 17)) (gA M (o + 18)) nh t) := by
  unfold F_X12_needOf
  have h1 : t / 24 < 2147483648 := by omega
  have h2 : inb (Int32.ofNat (t / 24 % 12)) 12 := ofN_inb (by omega) (by omega)
  have h3 : ixn (Int32.ofNat (t / 24 % 12)) = t / 24 % 12 := ofN_ix (by omega)
  simp only [bnd, d24 ht, m12 h1, hS.r1321, lr_some hS.k18, hS.n18, grd_pos h2, h3]
  have := m_need_loop hS hn h20 F_X12_needOf_p116 (Int32.ofNat t) (Int32.ofNat (t / 24)) ((15 : Int32) - gA M (o + 18) (t / 24 % 12)) nh 0 FU (by omega) (by unfold FU; omega)
  exact this
