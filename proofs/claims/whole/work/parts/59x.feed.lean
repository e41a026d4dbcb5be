/-- memories while bytes are fed -/
def FC (M : Mem) (x : Nat) (u : Int32) (κ : Nat → Int32) : Mem := wA (sI M 1002 (x + 13) u) (x + 14) κ
def FW (W : Mem) (o : Nat) (u : Int32) (κ : Nat → Int32) : Mem := wA (sI W 1328 o u) (o + 23) κ
/-- the byte k of z -/
def byS (z : Int64) (k : Nat) : Int32 := (z.toUInt64 >>> (((8 : Int32) * Int32.ofNat k).toInt64.toUInt64 &&& Int64.toUInt64 63)).toInt64.toInt32 &&& (255 : Int32)
/-- the tape after k bytes -/
def tpS (z : Int64) (u : Nat) (κ : Nat → Int32) : Nat → Nat → Int32
  | 0 => κ
  | k + 1 => ud (tpS z u κ k) (u + k) (byS z k)
theorem c_feed_loop {x : Nat} {M : Mem} (hC : CSh x M) (z : Int64) {n u : Nat} (hn : n ≤ 8) (hu : u + n ≤ 60) (κ : Nat → Int32) : ∀ d k fu, k + d = n → 100 ≤ fu + k → F_X11_feed_p42 F_X11_feed_p73 (fu + d + 1) (FC M x (Int32.ofNat (u + k)) (tpS z u κ k)) x (Int32.ofNat n) z (Int32.ofNat k) = some (FC M x (Int32.ofNat (u + n)) (tpS z u κ n), Int32.ofNat (u + n)) := by
  intro d
  induction d with
  | zero =>
    intro k fu hk _
    have : k = n := by omega
    subst this
    unfold F_X11_feed_p42 F_X11_feed_p73
    rw [if_pos (Int32.le_refl _)]
    show lr (gR M 1203 x) (gK M) 11 _ = _
    rw [hC.r1203, lr_some hC.k13]
    have eu : gI (FC M x (Int32.ofNat (u + k)) (tpS z u κ k)) 1002 (x + 13) = Int32.ofNat (u + k) := by
      show gI (sI M 1002 (x + 13) _) 1002 (x + 13) = _
      rw [gI_sI, if_pos ⟨rfl, rfl⟩]
    rw [eu]
  | succ d ih =>
    intro k fu hk hf
    unfold F_X11_feed_p42
    have c1 : ¬ Int32.ofNat n ≤ Int32.ofNat k := by
      rw [Int32.le_iff_toInt_le, ofN_toInt (by omega), ofN_toInt (by omega)]
      omega
    have c2 : ¬ Int32.ofNat (u + k) < 0 := ofN_n0 (by omega)
    have c3 : ¬ Int32.ofNat 60 ≤ Int32.ofNat (u + k) := by
      rw [Int32.le_iff_toInt_le, ofN_toInt (by omega), ofN_toInt (by omega)]
      omega
    have i1 : inb (Int32.ofNat (u + k)) 60 := ofN_inb (by omega) (by omega)
    have i2 : ixn (Int32.ofNat (u + k)) = u + k := ofN_ix (by omega)
    have e : F_X9_put (FC M x (Int32.ofNat (u + k)) (tpS z u κ k)) (x + 13) (byS z k) = some (FC M x (Int32.ofNat (u + (k + 1))) (tpS z u κ (k + 1)), ()) := by
      unfold F_X9_put F_X9_put_p39
      have eu : gI (FC M x (Int32.ofNat (u + k)) (tpS z u κ k)) 1002 (x + 13) = Int32.ofNat (u + k) := by
        show gI (sI M 1002 (x + 13) _) 1002 (x + 13) = _
        rw [gI_sI, if_pos ⟨rfl, rfl⟩]
      rw [eu, if_neg c2]
      show lr (gR M 1000 (x + 13)) (gK M) 20 _ = _
      rw [hC.r1000, lr_some hC.k14]
      show (if Int32.ofNat (gN M (x + 14)) ≤ _ then _ else lr (gR M 1000 (x + 13)) (gK M) 20 _) = _
      rw [hC.n14, if_neg c3, hC.r1000, lr_some hC.k14]
      show grd (inb _ (gN M (x + 14))) _ = _
      rw [hC.n14, grd_pos i1, i2]
      refine bnd_i (bnd_i ?_)
      have eq : ∀ w : Int32, w = Int32.ofNat (u + (k + 1)) → sI (sA (FC M x (Int32.ofNat (u + k)) (tpS z u κ k)) (x + 14) (u + k) (byS z k)) 1002 (x + 13) w = FC M x (Int32.ofNat (u + (k + 1))) (tpS z u κ (k + 1)) := by
        intro w hw
        subst hw
        have e1 : gI (sI (sA (FC M x (Int32.ofNat (u + k)) (tpS z u κ k)) (x + 14) (u + k) (byS z k)) 1002 (x + 13) (Int32.ofNat (u + (k + 1)))) = gI (FC M x (Int32.ofNat (u + (k + 1))) (tpS z u κ (k + 1))) := by
          funext f a
          show (if f = 1002 ∧ a = x + 13 then _ else if f = 1002 ∧ a = x + 13 then _ else gI M f a) = (if f = 1002 ∧ a = x + 13 then _ else gI M f a)
          by_cases c : f = 1002 ∧ a = x + 13
          · rw [if_pos c, if_pos c]
          · rw [if_neg c, if_neg c, if_neg c]
        have e2 : gA (sI (sA (FC M x (Int32.ofNat (u + k)) (tpS z u κ k)) (x + 14) (u + k) (byS z k)) 1002 (x + 13) (Int32.ofNat (u + (k + 1)))) = gA (FC M x (Int32.ofNat (u + (k + 1))) (tpS z u κ (k + 1))) := by
          funext a
          show gA (sA (FC M x (Int32.ofNat (u + k)) (tpS z u κ k)) (x + 14) (u + k) (byS z k)) a = gA (wA (sI M 1002 (x + 13) _) (x + 14) _) a
          by_cases c : a = x + 14
          · subst c
            rw [gA_sf, gA_wA, if_pos rfl]
            show ud (gA (wA (sI M 1002 (x + 13) _) (x + 14) _) (x + 14)) _ _ = _
            rw [gA_wA, if_pos rfl]
            rfl
          · rw [gA_nf c, gA_wA, if_neg c]
            show gA (wA (sI M 1002 (x + 13) _) (x + 14) _) a = _
            rw [gA_wA, if_neg c]
            rfl
        exact congr (congrArg (fun i a => mk (gK M) (gN M) i (gJ M) (gR M) a (gB M) (gO M) (gH M) (gS M) (gE M)) e1) e2
      rw [eq _ ?_]
      show gI (FC M x (Int32.ofNat (u + k)) (tpS z u κ k)) 1002 (x + 13) + 1 = _
      rw [eu]
      exact ofN_succ
    rw [if_neg c1]
    show lr (gR M 1203 x) (gK M) 11 _ = _
    rw [hC.r1203, lr_some hC.k13]
    show cl (F_X9_put _ (x + 13) (byS z k)) _ = _
    rw [e, cl_some]
    refine bnd_i ?_
    dsimp only
    rw [show Int32.ofNat k + 1 = Int32.ofNat (k + 1) from ofN_succ, show fu + (d + 1) = fu + d + 1 by omega]
    exact ih (k + 1) fu (by omega) (by omega)
