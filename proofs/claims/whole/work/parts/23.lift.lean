/-- the machine's lift between its points k, k+1, .. (r of them left) -/
def liftL (pw pl : Nat → Int32) (w : Int64) : Nat → Nat → Int64
  | 0, k => (pl k).toInt64
  | r + 1, k => if w < (1000 : Int64) * (pw (k + 1)).toInt64 then (pl k).toInt64 + ((pl (k + 1) - pl k).toInt64 * (w - (1000 : Int64) * (pw k).toInt64)) / ((1000 : Int64) * (pw (k + 1)).toInt64 - (1000 : Int64) * (pw k).toInt64) else liftL pw pl w r (k + 1)
def liftS (pw pl : Nat → Int32) (np : Nat) (w : Int64) : Int64 := if np = 0 then 100 else if w ≤ (1000 : Int64) * (pw 0).toInt64 then (pl 0).toInt64 else liftL pw pl w (np - 1) 0
theorem m_lift_loop {o : Nat} {M : Mem} (hS : MSh o M) {np : Nat} (hn : gI M 1322 o = Int32.ofNat np) (h8 : np ≤ 8) (hd : ∀ k, k + 1 < np → ¬ ((1000 : Int64) * (gA M (o + 19) (k + 1)).toInt64 - (1000 : Int64) * (gA M (o + 19) k).toInt64 = 0)) (w : Int64) : ∀ (r k n : Nat), k + r + 1 = np → r < n →
    F_X12_liftAt_p37 F_X12_liftAt_p82 F_X12_liftAt_p124 n M o w (Int32.ofNat k) = some (M, liftL (gA M (o + 19)) (gA M (o + 20)) w r k) := by
  intro r
  induction r with
  | zero =>
    intro k n hk hn2
    obtain ⟨n, rfl⟩ : ∃ z, n = z + 1 := ⟨n - 1, by omega⟩
    have h1 : inb (Int32.ofNat k) 8 := ofN_inb (by omega) (by omega)
    have h2 : ixn (Int32.ofNat k) = k := ofN_ix (by omega)
    have h3 : Int32.ofNat np - (1 : Int32) = Int32.ofNat k := by rw [show (1 : Int32) = Int32.ofNat 1 from rfl, ofN_subk (by omega) (by omega)]; congr 1; omega
    unfold F_X12_liftAt_p37 F_X12_liftAt_p124
    rw [hn, ofN_succ, if_pos ((ofN_le (by omega) (by omega)).mpr (by omega)), h3]
    simp only [hS.r1324, lr_some hS.k20, hS.n20, grd_pos h1, h2]
    rfl
  | succ r ih =>
    intro k n hk hn2
    obtain ⟨n, rfl⟩ : ∃ z, n = z + 1 := ⟨n - 1, by omega⟩
    have h1 : inb (Int32.ofNat k) 8 := ofN_inb (by omega) (by omega)
    have h2 : ixn (Int32.ofNat k) = k := ofN_ix (by omega)
    have h3 : inb (Int32.ofNat (k + 1)) 8 := ofN_inb (by omega) (by omega)
    have h4 : ixn (Int32.ofNat (k + 1)) = k + 1 := ofN_ix (by omega)
    have hrec := ih (k + 1) n (by omega) (by omega)
    unfold F_X12_liftAt_p37
    rw [hn, ofN_succ, if_neg (by rw [ofN_le (by omega) (by omega)]; omega)]
    simp only [bnd, hS.r1323, lr_some hS.k19, hS.n19, grd_pos h1, h2, grd_pos h3, h4, lg_cmp_ge]
    unfold liftL
    by_cases hw : w < (1000 : Int64) * (gA M (o + 19) (k + 1)).toInt64
    · rw [if_neg (Int64.not_le.mpr hw), if_pos hw]
      unfold F_X12_liftAt_p82
      simp only [ofN_succ, hS.r1324, lr_some hS.k20, hS.n20, grd_pos h1, h2, grd_pos h3, h4]
      rw [grd_pos (hd k (by omega))]
    · rw [if_pos (Int64.not_lt.mp hw), if_neg hw]
      exact hrec
theorem m_liftAt {o : Nat} {M : Mem} (hS : MSh o M) {np : Nat} (hn : gI M 1322 o = Int32.ofNat np) (h8 : np ≤ 8) (hd : ∀ k, k + 1 < np → ¬ ((1000 : Int64) * (gA M (o + 19) (k + 1)).toInt64 - (1000 : Int64) * (gA M (o + 19) k).toInt64 = 0)) (w : Int64) :
    F_X12_liftAt M o w = some (M, liftS (gA M (o + 19)) (gA M (o + 20)) np w) := by
  unfold F_X12_liftAt liftS
  have h1 : inb (0 : Int32) 8 := by decide
  have h2 : ixn (0 : Int32) = 0 := by decide
  rw [hn]
  by_cases h0 : np = 0
  · subst h0
    rw [if_pos (show Int32.ofNat 0 = 0 from rfl), if_pos rfl]
  · rw [if_neg h0, if_neg (by intro h; have := congrArg Int32.toInt h; rw [ofN_toInt (by omega)] at this; simp at this; exact h0 this)]
    simp only [hS.r1323, hS.r1324, lr_some hS.k19, lr_some hS.k20, hS.n19, hS.n20, grd_pos h1, h2, lg_cmp_gt]
    by_cases hw : w ≤ (1000 : Int64) * (gA M (o + 19) 0).toInt64
    · rw [if_neg (Int64.not_lt.mpr hw), if_pos hw]
    · rw [if_pos (Int64.not_le.mp hw), if_neg hw]
      exact m_lift_loop hS hn h8 hd w (np - 1) 0 FU (by omega) (by unfold FU; omega)
