theorem ofN_divk {t : Nat} (h : t < 2147483648) (k : Nat) (hk : 0 < k) (hk2 : k < 2147483648) : Int32.ofNat t / Int32.ofNat k = Int32.ofNat (t / k) := by
  apply i32_ext
  have h3 : t / k ≤ t := Nat.div_le_self t k
  rw [Int32.toInt_div, ofN_toInt h, ofN_toInt hk2, ofN_toInt (by omega), Int.tdiv_eq_ediv_of_nonneg (by omega)]
  have e : (t : Int) / (k : Int) = ((t / k : Nat) : Int) := by simp
  rw [e]
  generalize t / k = z at h3 ⊢
  exact Jvm.LawKit.bmod32 (by omega) (by omega)
theorem ofN_mulk {t k : Nat} : Int32.ofNat t * Int32.ofNat k = Int32.ofNat (t * k) := (Int32.ofNat_mul t k).symm
theorem ofN_subk {t k : Nat} (h : t < 2147483648) (hk : k ≤ t) : Int32.ofNat t - Int32.ofNat k = Int32.ofNat (t - k) := by
  apply i32_ext
  rw [i32_sub (by rw [ofN_toInt h, ofN_toInt (by omega)]; omega) (by rw [ofN_toInt h, ofN_toInt (by omega)]; omega), ofN_toInt h, ofN_toInt (by omega), ofN_toInt (by omega)]
  omega
theorem ofN_modk {t : Nat} (h : t < 2147483648) (k : Nat) (hk : 0 < k) (hk2 : k < 2147483648) : Int32.ofNat t - Int32.ofNat t / Int32.ofNat k * Int32.ofNat k = Int32.ofNat (t % k) := by
  have h4 : t / k * k ≤ t := Nat.div_mul_le_self t k
  rw [ofN_divk h k hk hk2, ofN_mulk, ofN_subk h h4]
  congr 1
  have := Nat.div_add_mod t k
  rw [Nat.mul_comm] at this
  omega
theorem d24 {t : Nat} (h : t < 2147483648) : Int32.ofNat t / (24 : Int32) = Int32.ofNat (t / 24) := ofN_divk h 24 (by decide) (by decide)
theorem m24 {t : Nat} (h : t < 2147483648) : Int32.ofNat t - Int32.ofNat t / (24 : Int32) * (24 : Int32) = Int32.ofNat (t % 24) := ofN_modk h 24 (by decide) (by decide)
theorem m12 {t : Nat} (h : t < 2147483648) : Int32.ofNat t - Int32.ofNat t / (12 : Int32) * (12 : Int32) = Int32.ofNat (t % 12) := ofN_modk h 12 (by decide) (by decide)
