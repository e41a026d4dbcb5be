/-- is a house joined -/
def jnd (jn : Nat → Int32) (day : Int32) (h : Nat) : Bool := decide (¬ jn h < 0 ∧ ¬ day < jn h)
theorem m_isJoined {o : Nat} {M : Mem} (hS : MSh o M) {h : Nat} (hh : h < 20) (day : Int32) : F_X12_isJoined M o (Int32.ofNat h) day = some (M, if jnd (gA M (o + 17)) day h then 1 else 0) := by
  have h1 : inb (Int32.ofNat h) 20 := ofN_inb (by omega) hh
  have h2 : ixn (Int32.ofNat h) = h := ofN_ix (by omega)
  unfold F_X12_isJoined F_X12_isJoined_p23 F_X12_isJoined_p24
  simp only [hS.r1320, lr_some hS.k17, hS.n17, grd_pos h1, h2]
  unfold jnd
  by_cases c1 : gA M (o + 17) h < 0
  · simp [c1, grd]
  · by_cases c2 : day < gA M (o + 17) h
    · simp [c1, c2, grd]
    · simp [c1, c2, grd]
/-- a house's wants in an hour -/
def ownN (ba mo wk : Nat → Int32) (t c : Int32) (h : Nat) : Int64 :=
  if ((wk h >>> ((t - t / (24 : Int32) * (24 : Int32)) &&& 31)) &&& (1 : Int32)) = (1 : Int32) then (ba h).toInt64 + (mo h).toInt64 * (if 0 ≤ c then c else 0).toInt64 else ((ba h).toInt64 + (mo h).toInt64 * (if 0 ≤ c then c else 0).toInt64) / 2
/-- what the first n houses want -/
def needS (ba mo wk jn : Nat → Int32) (t day c : Int32) : Nat → Int64
  | 0 => 0
  | n + 1 => if jnd jn day n then needS ba mo wk jn t day c n + ownN ba mo wk t c n else needS ba mo wk jn t day c n
theorem needS_succ (ba mo wk jn : Nat → Int32) (t day c : Int32) (n : Nat) : needS ba mo wk jn t day c (n + 1) = if jnd jn day n then needS ba mo wk jn t day c n + ownN ba mo wk t c n else needS ba mo wk jn t day c n := rfl
theorem m_need_loop {o : Nat} {M : Mem} (hS : MSh o M) {nh : Nat} (hn : gI M 1316 o = Int32.ofNat nh) (h20 : nh ≤ 20) (k : Mem → Int64 → Option (Mem × Int64)) (t day c : Int32) : ∀ (r i n : Nat), i + r = nh → r < n →
    F_X12_needOf_p26 k n M o t (needS (gA M (o + 14)) (gA M (o + 15)) (gA M (o + 16)) (gA M (o + 17)) t day c i) day c (Int32.ofNat i) = k M (needS (gA M (o + 14)) (gA M (o + 15)) (gA M (o + 16)) (gA M (o + 17)) t day c nh) := by
  intro r
  induction r with
  | zero =>
    intro i n hi hn2
    obtain ⟨n, rfl⟩ : ∃ z, n = z + 1 := ⟨n - 1, by omega⟩
    have : i = nh := by omega
    subst this
    unfold F_X12_needOf_p26
    rw [hn, if_pos ((ofN_le (by omega) (by omega)).mpr (Nat.le_refl _))]
  | succ r ih =>
    intro i n hi hn2
    obtain ⟨n, rfl⟩ : ∃ z, n = z + 1 := ⟨n - 1, by omega⟩
    have h1 : inb (Int32.ofNat i) 20 := ofN_inb (by omega) (by omega)
    have h2 : ixn (Int32.ofNat i) = i := ofN_ix (by omega)
    have hrec := ih (i + 1) n (by omega) (by omega)
    unfold F_X12_needOf_p26
    rw [hn, if_neg (by rw [ofN_le (by omega) (by omega)]; omega), m_isJoined hS (by omega), cl_some]
    rw [needS_succ] at hrec
    by_cases hj : jnd (gA M (o + 17)) day i = true
    · rw [if_pos hj] at hrec
      unfold ownN at hrec
      simp only [hj, if_true, one_ne, if_false, F_X12_needOf_p73, F_X12_needOf_p108, F_X12_needOf_p110, bnd, ofN_succ, hS.r1317, hS.r1318, hS.r1319, lr_some hS.k14, lr_some hS.k15, lr_some hS.k16, hS.n14, hS.n15, hS.n16, grd_pos h1, h2]
      by_cases hc : (0 : Int32) ≤ c
      · simp only [hc, if_true] at hrec ⊢
        by_cases hw : ((gA M (o + 16) i >>> ((t - t / (24 : Int32) * (24 : Int32)) &&& 31)) &&& (1 : Int32)) = (1 : Int32)
        · simp only [hw, if_true] at hrec ⊢
          exact hrec
        · simp only [hw, if_false] at hrec ⊢
          exact hrec
      · simp only [hc, if_false] at hrec ⊢
        by_cases hw : ((gA M (o + 16) i >>> ((t - t / (24 : Int32) * (24 : Int32)) &&& 31)) &&& (1 : Int32)) = (1 : Int32)
        · simp only [hw, if_true] at hrec ⊢
          exact hrec
        · simp only [hw, if_false] at hrec ⊢
          exact hrec
    · rw [if_neg hj] at hrec
      simp only [hj, Bool.false_eq_true, if_false, bz, if_true, F_X12_needOf_p110, bnd, ofN_succ]
      exact hrec
theorem i32_mod {x : Int32} {n : Int} (hn : 0 < n) : x.toInt - x.toInt.tdiv n * n = x.toInt.tmod n := by
  have := Int.tdiv_mul_add_tmod x.toInt n
  omega
